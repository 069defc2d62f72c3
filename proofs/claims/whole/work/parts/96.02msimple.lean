/-! The reference: prices, what is at hand, POINTS. -/
section Sn
variable {P : gc_Pr} {d : Nat} {s : gc_St} {Q : gc_TQ} {W : ld_W} {L lv : Nat}
theorem sp_misGround (hP : gc_Cl P) (hm : gc_Mo P) (hd : 1 ≤ d) (hl : rf_law W lv s) {c : Int32} (h1 : ∀ k, k < ld_g W → c = nI k → Q (some (.int 1)) s) (h2 : (∀ k, k < ld_g W → c ≠ nI k) → Q (some (.int 0)) s) : gc_T P d 0 0 219 0 [.ref 67, .int c] [] s Q := by
  have hlv := hl.1.1
  have hg4 := hl.1.2.2.1.1
  refine b_X11_isGround_0 hP hm ?_
  rw [hl.1.2.1, nI_clamp (by omega), hl.2.1.1]
  exact ⟨vp_in_nI hlv (by omega), hd, sp_inN hP hm (n := ld_g W) (by omega) rfl (fun k hk e => ⟨Or.inr rfl, h1 k hk e⟩) (fun e => ⟨Or.inl rfl, h2 e⟩)⟩
theorem sp_misPoint (hP : gc_Cl P) (hm : gc_Mo P) (hd : 1 ≤ d) (hl : rf_law W lv s) {c : Int32} (h1 : ∀ k, k < ld_p W → c = nI k → Q (some (.int 1)) s) (h2 : (∀ k, k < ld_p W → c ≠ nI k) → Q (some (.int 0)) s) : gc_T P d 0 0 221 0 [.ref 67, .int c] [] s Q := by
  have hlv := hl.1.1
  have hp24 := hl.1.2.2.1.2.2.2.2
  refine b_X11_isPoint_0 hP hm ?_
  rw [hl.1.2.1, nI_clamp (by omega), hl.2.1.2.2.2.2]
  exact ⟨vp_in_nI hlv (by omega), hd, sp_inN hP hm (n := ld_p W) (by omega) rfl (fun k hk e => ⟨Or.inr rfl, h1 k hk e⟩) (fun e => ⟨Or.inl rfl, h2 e⟩)⟩
theorem sp_mprice (hP : gc_Cl P) (hm : gc_Mo P) (hd : 2 ≤ d) (hl : rf_law W lv s) {c : Int32} (h1 : ∀ k, k < ld_g W → c = nI k → Q (some (.int (nI (ld_pr W k)))) s) (h2 : (∀ k, k < ld_g W → c ≠ nI k) → Q (some (.int (-1))) s) : gc_T P d 0 0 224 0 [.ref 67, .int c] [] s Q := by
  have hlv := hl.1.1
  have hg4 := hl.1.2.2.1.1
  refine b_X11_price_0 hP hm ⟨by omega, sp_misGround hP hm (by omega) hl (fun k hk e => ⟨fun y => absurd y (by decide), fun _ => ?_⟩) (fun e => ⟨fun _ => h2 e, fun y => absurd rfl y⟩)⟩
  rw [hl.1.2.1, e, st_lit 4, pk_mul, nI_add, nI_clamp (by omega), hl.2.2.1 k hk]
  exact ⟨vp_in_nI (by omega) (by decide), h1 k hk e⟩
theorem sp_mstock (hP : gc_Cl P) (hm : gc_Mo P) (hd : 2 ≤ d) (hl : rf_law W lv s) {c : Int32} {a : Nat} (hF : gc_F s 67 49 = nI a) (ha : a < 256) (h1 : ∀ k, k < ld_g W → c = nI k → Q (some (.int (nI (a / 4 ^ k % 4)))) s) (h2 : (∀ k, k < ld_g W → c ≠ nI k) → Q (some (.int (-1))) s) : gc_T P d 0 0 225 0 [.ref 67, .int c] [] s Q := by
  have hg4 := hl.1.2.2.1.1
  refine b_X11_stock_0 hP hm ⟨by omega, sp_misGround hP hm (by omega) hl (fun k hk e => ⟨fun y => absurd y (by decide), fun _ => ?_⟩) (fun e => ⟨fun _ => h2 e, fun y => absurd rfl y⟩)⟩
  rw [hF, e, st_lit 2, pk_mul, st_dig ha (by omega)]
  exact h1 k hk e
theorem sp_mputR (hP : gc_Cl P) (hm : gc_Mo P) (hd : 2 ≤ d) (hl : rf_law W lv s) {c x : Int32} {a : Nat} (hF : gc_F s 67 49 = nI a) (ha : a < 256) (h1 : ∀ k j, k < ld_g W → c = nI k → j < 4 → x = nI j → Q (some (.int 1)) (gc_wF s 67 49 (nI (st_pt a k j)))) (h2 : ((∀ k, k < ld_g W → c ≠ nI k) ∨ (∀ k, k < 4 → x ≠ nI k)) → Q (some (.int 0)) s) : gc_T P d 0 0 226 0 [.ref 67, .int c, .int x] [] s Q := by
  have hg4 := hl.1.2.2.1.1
  refine b_X11_put__0 hP hm ⟨by omega, sp_misGround hP hm (by omega) hl (fun k hk e => ⟨fun y => absurd y (by decide), fun _ => ⟨by omega, ?_⟩⟩) (fun e => ⟨fun _ => h2 (Or.inl e), fun y => absurd rfl y⟩)⟩
  refine sp_inN hP hm (n := 4) (by decide) (by decide) (fun j hj ej => ⟨fun _ => ?_, fun y => absurd y (by decide)⟩) (fun ej => ⟨fun y => absurd rfl y, fun _ => h2 (Or.inr ej)⟩)
  rw [hF, e, ej, st_lit 2, pk_mul, st_dig ha (by omega), st_ptI a ha k (by omega) j hj]
  exact h1 k j hk e hj ej
theorem sp_moath (hP : gc_Cl P) (hm : gc_Mo P) (hd : 1 ≤ d) (hl : rf_law W lv s) {c x : Int32} {o : Nat} (hF : gc_F s 67 50 = nI o) (ho : o < 8) (h1 : ∀ k, k < ld_o W → c = nI k → Q (some (.int 1)) (gc_wF s 67 50 (nI (wb o k x)))) (h2 : (∀ k, k < ld_o W → c ≠ nI k) → Q (some (.int 0)) s) : gc_T P d 0 0 227 0 [.ref 67, .int c, .int x] [] s Q := by
  have hlv := hl.1.1
  have ho3 := hl.1.2.2.1.2.1
  refine b_X11_oath_0 hP hm ?_
  rw [hl.1.2.1, nI_clamp (by omega), hl.2.1.2.1]
  refine ⟨vp_in_nI hlv (by omega), hd, sp_inN hP hm (n := ld_o W) (by omega) rfl (fun k hk e => ⟨fun _ => ?_, fun y => absurd y (by decide)⟩) (fun e => ⟨fun y => absurd rfl y, fun _ => h2 e⟩)⟩
  have hfin := h1 k hk e
  unfold wb at hfin
  rw [hF, e, wb_0 o ho k (by omega), wb_1 o ho k (by omega)]
  refine ⟨fun e2 => ?_, fun e2 => ?_⟩
  · rw [if_pos e2] at hfin
    exact hfin
  · rw [if_neg e2] at hfin
    exact hfin
theorem sp_mbargain (hP : gc_Cl P) (hm : gc_Mo P) (hd : 1 ≤ d) (hl : rf_law W lv s) {c x : Int32} {o : Nat} (hF : gc_F s 67 51 = nI o) (ho : o < 8) (h1 : ∀ k, k < ld_b W → c = nI k → Q (some (.int 1)) (gc_wF s 67 51 (nI (wb o k x)))) (h2 : (∀ k, k < ld_b W → c ≠ nI k) → Q (some (.int 0)) s) : gc_T P d 0 0 228 0 [.ref 67, .int c, .int x] [] s Q := by
  have hlv := hl.1.1
  have ho3 := hl.1.2.2.1.2.2.1
  refine b_X11_bargain_0 hP hm ?_
  rw [hl.1.2.1, nI_clamp (by omega), hl.2.1.2.2.1]
  refine ⟨vp_in_nI hlv (by omega), hd, sp_inN hP hm (n := ld_b W) (by omega) rfl (fun k hk e => ⟨fun _ => ?_, fun y => absurd y (by decide)⟩) (fun e => ⟨fun y => absurd rfl y, fun _ => h2 e⟩)⟩
  have hfin := h1 k hk e
  unfold wb at hfin
  rw [hF, e, wb_0 o ho k (by omega), wb_1 o ho k (by omega)]
  refine ⟨fun e2 => ?_, fun e2 => ?_⟩
  · rw [if_pos e2] at hfin
    exact hfin
  · rw [if_neg e2] at hfin
    exact hfin
theorem sp_mpointOf (hP : gc_Cl P) (hm : gc_Mo P) (hd : 2 ≤ d) (hl : rf_law W lv s) {c : Int32} (h1 : ∀ k, k < ld_c W → c = nI k → Q (some (.int (nI (ld_ro W k)))) s) (h2 : (∀ k, k < ld_c W → c ≠ nI k) → Q (some (.int (-1))) s) : gc_T P d 0 0 229 0 [.ref 67, .int c] [] s Q := by
  have hlv := hl.1.1
  have hc6 := hl.1.2.2.1.2.2.2.1
  refine b_X11_pointOf_0 hP hm ⟨by omega, sp_isClaim hP hm (by omega) hl (fun k hk e => ⟨fun y => absurd y (by decide), fun _ => ?_⟩) (fun e => ⟨fun _ => h2 e, fun y => absurd rfl y⟩)⟩
  rw [hl.1.2.1, e, st_lit 6, pk_mul, nI_add, nI_clamp (by omega), (hl.2.2.2.2.2.1 k hk).2]
  exact ⟨vp_in_nI (by omega) (by decide), h1 k hk e⟩
theorem sp_mpoint (hP : gc_Cl P) (hm : gc_Mo P) (hd : 2 ≤ d) (hl : rf_law W lv s) {c x : Int32} (h1 : ∀ p, p < ld_p W → c = nI p → Q (some (.int (pt_v W p x))) s) (h2 : (∀ p, p < ld_p W → c ≠ nI p) → Q (some (.int (-1))) s) : gc_T P d 0 0 230 0 [.ref 67, .int c, .int x] [] s Q := by
  refine b_X11_point_0 hP hm ⟨by omega, sp_misPoint hP hm (by omega) hl (fun p hp e0 => ⟨fun _ => ?_, fun y => absurd y (by decide)⟩) (fun e => ⟨fun y => absurd rfl y, fun _ => h2 e⟩)⟩
  have hfin := h1 p hp e0
  have hx := pt_x x
  unfold pt_v at hfin
  rw [e0]
  refine ⟨fun e => ⟨by omega, sp_mkind hP hm hl hp ?_⟩, fun e => ⟨by omega, sp_mfirst hP hm hl hp ?_⟩, fun e => ⟨by omega, sp_msecond hP hm hl hp ?_⟩, fun e => ?_⟩
  · rw [if_pos (hx.1.mp e)] at hfin
    exact hfin
  · rw [if_neg (fun e2 => by rw [hx.1.mpr e2] at e; omega), if_pos (hx.2.1.mp e)] at hfin
    exact hfin
  · rw [if_neg (fun e2 => by rw [hx.1.mpr e2] at e; omega), if_neg (fun e2 => by rw [hx.2.1.mpr e2] at e; omega), if_pos (hx.2.2.mp e)] at hfin
    exact hfin
  · rw [if_neg (fun e2 => by rw [hx.1.mpr e2] at e; omega), if_neg (fun e2 => by rw [hx.2.1.mpr e2] at e; omega), if_neg (fun e2 => by rw [hx.2.2.mpr e2] at e; omega)] at hfin
    exact hfin
/-! The tape taken back; slots; what passed. -/
theorem sp_backC (hP : gc_Cl P) (hm : gc_Mo P) {c : Int32} {n : Nat} (hn : n < 2 ^ 30) (hF : gc_F s 1 1 = nI n) (h1 : ∀ k, k ≤ n → c = nI k → Q (some (.int (nI (n - k)))) (gc_wF s 1 1 (nI (n - k)))) (h2 : (∀ k, k ≤ n → c ≠ nI k) → Q (some (.int (-1))) s) : gc_T P d 0 0 122 0 [.ref 0, .int c] [] s Q := by
  refine b_X10_back_0 hP hm ?_
  rw [hF]
  refine ⟨fun z => h2 fun k hk e => ?_, fun z => ?_⟩
  · rw [e] at z
    exact nI_pos (by omega) z
  · obtain ⟨k, hk, rfl⟩ := nI_of z
    refine pk_le k n (fun y => ?_) (fun y => h2 fun j hj e => ?_)
    · rw [pk_sub y]
      exact h1 k y rfl
    · rw [nI_eq (by omega) (by omega)] at e
      omega
theorem sp_mback (hP : gc_Cl P) (hm : gc_Mo P) {c : Int32} {n : Nat} (hn : n < 2 ^ 30) (hF : gc_F s 67 3 = nI n) (h1 : ∀ k, k ≤ n → c = nI k → Q (some (.int (nI (n - k)))) (gc_wF s 67 3 (nI (n - k)))) (h2 : (∀ k, k ≤ n → c ≠ nI k) → Q (some (.int (-1))) s) : gc_T P d 0 0 175 0 [.ref 67, .int c] [] s Q := by
  refine b_X11_back_0 hP hm ?_
  rw [hF]
  refine ⟨fun z => h2 fun k hk e => ?_, fun z => ?_⟩
  · rw [e] at z
    exact nI_pos (by omega) z
  · obtain ⟨k, hk, rfl⟩ := nI_of z
    refine pk_le k n (fun y => ?_) (fun y => h2 fun j hj e => ?_)
    · rw [pk_sub y]
      exact h1 k y rfl
    · rw [nI_eq (by omega) (by omega)] at e
      omega
/-- what passed: none, or how many steps, how deep, how many idle -/
def ps_v (r : Option (Int32 × Int32 × Int32)) (k : Nat) : Int32 := match r with
  | none => -2
  | some x => if k = 0 then x.1 else if k = 1 then x.2.1 else x.2.2
def psC (r : Option (Int32 × Int32 × Int32)) (s : gc_St) : Prop := (r = none ∧ gc_F s 28 16 = 0) ∨ ∃ x, r = some x ∧ gc_F s 28 16 ≠ 0 ∧ gc_F s 28 17 = x.1 ∧ gc_F s 28 18 = x.2.1 ∧ gc_F s 28 19 = x.2.2
def psR (r : Option (Int32 × Int32 × Int32)) (s : gc_St) : Prop := (r = none ∧ gc_F s 67 68 = 0) ∨ ∃ x, r = some x ∧ gc_F s 67 68 ≠ 0 ∧ gc_F s 67 69 = x.1 ∧ gc_F s 67 70 = x.2.1 ∧ gc_F s 67 71 = x.2.2
theorem sp_passedC (hP : gc_Cl P) (hm : gc_Mo P) {c : Int32} {r : Option (Int32 × Int32 × Int32)} (hr : psC r s) (h1 : ∀ k, k < 3 → c = nI k → Q (some (.int (ps_v r k))) s) (h2 : (∀ k, k < 3 → c ≠ nI k) → Q (some (.int (-1))) s) : gc_T P d 0 0 127 0 [.ref 0, .int c] [] s Q := by
  refine b_X10_passed_0 hP hm ⟨fun z => h2 fun k hk e => (nI_ix (by omega) hk e).1 z, fun z => ⟨fun y => ?_, fun y => h2 fun k hk e => y ?_⟩⟩
  · obtain ⟨k, hk, rfl⟩ := nI_of z
    rw [show (2 : Int32) = nI 2 from rfl, nI_leI hk (by decide)] at y
    have hfin := h1 k (by omega) rfl
    rw [show (0 : Int32) = nI 0 from rfl, show (1 : Int32) = nI 1 from rfl, nI_eq (by omega) (by omega), nI_eq (by omega) (by omega)]
    rcases hr with ⟨e, e1⟩ | ⟨x, e, e1, e2, e3, e4⟩
    · rw [e] at hfin
      exact ⟨fun y => absurd e1 y, fun _ => hfin⟩
    · rw [e] at hfin
      have hfin : Q (some (.int (if k = 0 then x.1 else if k = 1 then x.2.1 else x.2.2))) s := hfin
      refine ⟨fun _ => ⟨fun z0 => ⟨fun z1 => ?_, fun z1 => ?_⟩, fun z0 => ?_⟩, fun y => absurd y e1⟩
      · rw [if_neg z0, if_neg z1] at hfin
        rw [e4]
        exact hfin
      · rw [if_neg z0, if_pos z1] at hfin
        rw [e3]
        exact hfin
      · rw [if_pos z0] at hfin
        rw [e2]
        exact hfin
  · rw [e, show (2 : Int32) = nI 2 from rfl, nI_leI (by omega) (by decide)]
    omega
theorem sp_mpassed (hP : gc_Cl P) (hm : gc_Mo P) (hd : 1 ≤ d) {c : Int32} {r : Option (Int32 × Int32 × Int32)} (hr : psR r s) (h1 : ∀ k, k < 3 → c = nI k → Q (some (.int (ps_v r k))) s) (h2 : (∀ k, k < 3 → c ≠ nI k) → Q (some (.int (-1))) s) : gc_T P d 0 0 268 0 [.ref 67, .int c] [] s Q := by
  refine b_X11_passed_0 hP hm ⟨hd, sp_inN hP hm (n := 3) (by decide) (by decide) (fun k hk ek => ⟨fun _ => ?_, fun y => absurd y (by decide)⟩) (fun ek => ⟨fun y => absurd rfl y, fun _ => h2 ek⟩)⟩
  have hfin := h1 k (by omega) ek
  rw [ek, show (0 : Int32) = nI 0 from rfl, show (1 : Int32) = nI 1 from rfl, nI_eq (by omega) (by omega), nI_eq (by omega) (by omega)]
  rcases hr with ⟨e, e1⟩ | ⟨x, e, e1, e2, e3, e4⟩
  · rw [e] at hfin
    exact ⟨fun y => absurd e1 y, fun _ => hfin⟩
  · rw [e] at hfin
    have hfin : Q (some (.int (if k = 0 then x.1 else if k = 1 then x.2.1 else x.2.2))) s := hfin
    refine ⟨fun _ => ⟨fun z0 => ⟨fun z1 => ?_, fun z1 => ?_⟩, fun z0 => ?_⟩, fun y => absurd y e1⟩
    · rw [if_neg z0, if_neg z1] at hfin
      rw [e4]
      exact hfin
    · rw [if_neg z0, if_pos z1] at hfin
      rw [e3]
      exact hfin
    · rw [if_pos z0] at hfin
      rw [e2]
      exact hfin
end Sn
