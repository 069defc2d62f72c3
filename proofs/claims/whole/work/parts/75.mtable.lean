/-! The reference: its law, its table of depths. -/
def rf_law (W : ld_W) (lv : Nat) (s : gc_St) : Prop :=
  (lv < 2 ∧ gc_F s 67 19 = nI lv ∧ ld_ok W) ∧
  (gc_I s 80 lv = nI (ld_g W) ∧ gc_I s 83 lv = nI (ld_o W) ∧ gc_I s 86 lv = nI (ld_b W) ∧ gc_I s 90 lv = nI (ld_c W) ∧ gc_I s 93 lv = nI (ld_p W)) ∧
  (∀ g, g < ld_g W → gc_I s 81 (4 * lv + g) = nI (ld_pr W g)) ∧
  (∀ k, k < ld_o W → gc_I s 84 (3 * lv + k) = nI (ld_tk W k) ∧ gc_I s 85 (3 * lv + k) = nI (ld_gv W k)) ∧
  (∀ k, k < ld_b W → gc_I s 87 (3 * lv + k) = nI (ld_tk W (3 + k)) ∧ gc_I s 88 (3 * lv + k) = nI (ld_gv W (3 + k)) ∧ gc_I s 89 (3 * lv + k) = ld_oI (ld_ot W (3 + k))) ∧
  (∀ c, c < ld_c W → gc_I s 91 (6 * lv + c) = nI (ld_wo W c) ∧ gc_I s 92 (6 * lv + c) = nI (ld_ro W c)) ∧
  (∀ p, p < ld_p W → gc_I s 94 (24 * lv + p) = nI (ld_kd W p) ∧ gc_I s 95 (24 * lv + p) = ld_fI W p ∧ gc_I s 96 (24 * lv + p) = ld_sI W p)
/-- the cells of the law stay -/
def rfB (a : Nat) : Bool := Nat.ble 80 a && Nat.ble a 96 && !Nat.beq a 82
theorem rf_law_of {W : ld_W} {lv : Nat} {s t : gc_St} (h : rf_law W lv s) (hF : gc_F t 67 19 = gc_F s 67 19) (hI : ∀ a, rfB a = true → gc_I t a = gc_I s a) : rf_law W lv t := by
  obtain ⟨⟨h1, h2, h3⟩, h4, h5, h6, h7, h8, h9⟩ := h
  refine ⟨⟨h1, hF.trans h2, h3⟩, ?_, ?_, ?_, ?_, ?_, ?_⟩
  · rw [hI 80 rfl, hI 83 rfl, hI 86 rfl, hI 90 rfl, hI 93 rfl]
    exact h4
  · rw [hI 81 rfl]
    exact h5
  · rw [hI 84 rfl, hI 85 rfl]
    exact h6
  · rw [hI 87 rfl, hI 88 rfl, hI 89 rfl]
    exact h7
  · rw [hI 91 rfl, hI 92 rfl]
    exact h8
  · rw [hI 94 rfl, hI 95 rfl, hI 96 rfl]
    exact h9
theorem rf_law_fr {A : Nat → Nat → Bool} {B : Nat → Bool} {W : ld_W} {lv : Nat} {s t : gc_St} (h : rf_law W lv s) (g : fr A B s t) (hA : A 67 19 = false) (hB : ∀ a, rfB a = true → B a = false) : rf_law W lv t := rf_law_of h (fr_F g hA) (fun a e => fr_I g (hB a e))
def sp3 (p s b : Nat) : Nat := 2048 * p + 8 * s + b
theorem sp3_lt {p s b : Nat} (hp : p < 24) (hs : s < 256) (hb : b < 8) : sp3 p s b < 49152 := by
  unfold sp3
  omega
theorem sp3_inj {p s b p' s' b' : Nat} (hs : s < 256) (hb : b < 8) (hs' : s' < 256) (hb' : b' < 8) (h : sp3 p s b = sp3 p' s' b') : p = p' ∧ s = s' ∧ b = b' := by
  unfold sp3 at h
  omega
theorem st_clr : ∀ b, b < 8 → ∀ k, k < 3 → b / 2 ^ k % 2 = 1 → nI b &&& (((1 : Int32) <<< (nI k &&& 31)) ^^^ (-1)) = nI (b - 2 ^ k) := by decide +kernel
theorem st_bit1 {o k : Nat} (ho : o < 2 ^ 31) (hk : k < 32) : ((nI o >>> (nI k &&& 31)) &&& 1 = 1 ↔ o / 2 ^ k % 2 = 1) := by
  rw [st_shr ho hk, st_and1 (Nat.lt_of_le_of_lt (Nat.div_le_self _ _) (by omega)), show (1 : Int32) = nI 1 from rfl, nI_eq (by omega) (by omega)]
theorem dp_lst_c (x y : Nat) : dp_lst x y = if x = 0 then y else if y = 0 then x else if x ≤ y then x else y := by
  unfold dp_lst
  by_cases e : x = 0
  · rw [if_pos (Or.inl e), if_pos e]
  · rw [if_neg e]
    by_cases e2 : y = 0
    · rw [if_pos e2, if_neg (by omega)]
    · rw [if_neg e2]
      by_cases e3 : x ≤ y
      · rw [if_pos e3, if_neg (by omega)]
      · rw [if_neg e3, if_pos (by omega)]
section Rb
variable {P : gc_Pr} {d : Nat} {s : gc_St} {Q : gc_TQ} {W : ld_W} {lv o p b : Nat}
theorem sp_spot (hP : gc_Cl P) (hm : gc_Mo P) {x y z : Nat} (h : Q (some (.int (nI (sp3 x y z)))) s) : gc_T P d 0 0 231 0 [.int (nI x), .int (nI y), .int (nI z)] [] s Q := by
  refine b_X11_spot_0 hP hm ?_
  rw [st_lit 2048, pk_mul, st_lit 8, pk_mul, nI_add, nI_add]
  exact h
theorem sp_one (hP : gc_Cl P) (hm : gc_Mo P) {x : Nat} (hx : x + 1 < 2 ^ 31) (h : Q (some (.int (nI (dp_one x)))) s) : gc_T P d 0 0 234 0 [.int (nI x)] [] s Q := by
  unfold dp_one at h
  refine b_X11_one_0 hP hm ⟨fun y => ?_, fun y => ?_⟩
  · rw [if_neg (fun e => y (by rw [e]; rfl))] at h
    rw [nI_1]
    exact h
  · rw [show (0 : Int32) = nI 0 from rfl, nI_eq (by omega) (by omega)] at y
    rw [if_pos y] at h
    exact h
theorem sp_both (hP : gc_Cl P) (hm : gc_Mo P) {x y : Nat} (hx : x + 1 < 2 ^ 31) (hy : y + 1 < 2 ^ 31) (h : Q (some (.int (nI (dp_both x y)))) s) : gc_T P d 0 0 235 0 [.int (nI x), .int (nI y)] [] s Q := by
  unfold dp_both at h
  refine b_X11_both_0 hP hm ⟨fun z => ?_, fun z => ⟨fun w => ?_, fun w => ?_⟩⟩
  · rw [show (0 : Int32) = nI 0 from rfl, nI_eq (by omega) (by omega)] at z
    rw [if_pos (Or.inl z)] at h
    exact h
  · have z2 : x ≠ 0 := fun e => z (by rw [e]; rfl)
    have w2 : y ≠ 0 := fun e => w (by rw [e]; rfl)
    rw [if_neg (by omega)] at h
    refine pk_le x y (fun u => ?_) (fun u => ?_)
    · rw [if_neg (by omega)] at h
      rw [nI_1]
      exact h
    · rw [if_pos u] at h
      rw [nI_1]
      exact h
  · rw [show (0 : Int32) = nI 0 from rfl, nI_eq (by omega) (by omega)] at w
    rw [if_pos (Or.inr w)] at h
    exact h
theorem sp_mleast (hP : gc_Cl P) (hm : gc_Mo P) {x y : Nat} (hx : x < 2 ^ 31) (hy : y < 2 ^ 31) (h : Q (some (.int (nI (dp_lst x y)))) s) : gc_T P d 0 0 236 0 [.int (nI x), .int (nI y)] [] s Q := by
  rw [dp_lst_c] at h
  refine b_X11_least_0 hP hm ⟨fun z => ?_, fun z => ⟨fun w => ?_, fun w => pk_le x y (fun u => ?_) (fun u => ?_)⟩⟩
  · rw [show (0 : Int32) = nI 0 from rfl, nI_eq (by omega) (by omega)] at z
    rw [if_pos z] at h
    exact h
  · rw [show (0 : Int32) = nI 0 from rfl, nI_eq (by omega) (by omega)] at w
    rw [if_neg (fun e => z (by rw [e]; rfl)), if_pos w] at h
    exact h
  · rw [if_neg (fun e => z (by rw [e]; rfl)), if_neg (fun e => w (by rw [e]; rfl)), if_pos u] at h
    exact h
  · rw [if_neg (fun e => z (by rw [e]; rfl)), if_neg (fun e => w (by rw [e]; rfl)), if_neg (by omega)] at h
    exact h
theorem sp_mkind (hP : gc_Cl P) (hm : gc_Mo P) (hl : rf_law W lv s) (hp : p < ld_p W) (h : Q (some (.int (nI (ld_kd W p)))) s) : gc_T P d 0 0 216 0 [.ref 67, .int (nI p)] [] s Q := by
  have hp24 := hl.1.2.2.1.2.2.2.2
  have := hl.1.1
  refine b_X11_kind_0 hP hm ?_
  rw [hl.1.2.1, st_lit 24, pk_mul, nI_add, nI_clamp (by omega), (hl.2.2.2.2.2.2 p hp).1]
  exact ⟨vp_in_nI (by omega) (by omega), h⟩
theorem sp_mfirst (hP : gc_Cl P) (hm : gc_Mo P) (hl : rf_law W lv s) (hp : p < ld_p W) (h : Q (some (.int (ld_fI W p))) s) : gc_T P d 0 0 217 0 [.ref 67, .int (nI p)] [] s Q := by
  have hp24 := hl.1.2.2.1.2.2.2.2
  have := hl.1.1
  refine b_X11_first_0 hP hm ?_
  rw [hl.1.2.1, st_lit 24, pk_mul, nI_add, nI_clamp (by omega), (hl.2.2.2.2.2.2 p hp).2.1]
  exact ⟨vp_in_nI (by omega) (by omega), h⟩
theorem sp_msecond (hP : gc_Cl P) (hm : gc_Mo P) (hl : rf_law W lv s) (hp : p < ld_p W) (h : Q (some (.int (ld_sI W p))) s) : gc_T P d 0 0 218 0 [.ref 67, .int (nI p)] [] s Q := by
  have hp24 := hl.1.2.2.1.2.2.2.2
  have := hl.1.1
  refine b_X11_second_0 hP hm ?_
  rw [hl.1.2.1, st_lit 24, pk_mul, nI_add, nI_clamp (by omega), (hl.2.2.2.2.2.2 p hp).2.2]
  exact ⟨vp_in_nI (by omega) (by omega), h⟩
theorem sp_stocksAll (hP : gc_Cl P) (hm : gc_Mo P) (hl : rf_law W lv s) (h : Q (some (.int (nI (ld_N W)))) s) : gc_T P d 0 0 222 0 [.ref 67] [] s Q := by
  have := hl.1.1
  refine b_X11_stocksAll_0 hP hm ?_
  rw [hl.1.2.1, nI_clamp (by omega), hl.2.1.1, ld_shN hl.1.2.2.1.1]
  exact ⟨vp_in_nI hl.1.1 (by omega), h⟩
/-- the table of a POINT, and of those before it -/
def rtb (W : ld_W) (o p : Nat) (T : Nat → Nat → Nat) (s : gc_St) : Prop := (∀ p', p' < p → ∀ st b, st < ld_N W → b < 2 ^ ld_b W → gc_I s 100 (sp3 p' st b) = nI (dp_D W o p' st b)) ∧ (∀ st b, st < ld_N W → b < 2 ^ ld_b W → gc_I s 100 (sp3 p st b) = nI (T st b))
/-- by an OATH -/
def oa_v (W : ld_W) (T : Nat → Nat → Nat) (st b k : Nat) : Nat := match dp_ch st (ld_tk W k) (ld_gv W k) with
  | none => 0
  | some t => dp_one (T t b)
theorem sp_mbyOath (hP : gc_Cl P) (hm : gc_Mo P) (hd : 2 ≤ d) (hl : rf_law W lv s) (hp : p < ld_p W) {T : Nat → Nat → Nat} {K : Nat} (hK : K < 2 ^ 30) (hT : rtb W o p T s) (hTK : ∀ st b, st < ld_N W → b < 2 ^ ld_b W → T st b ≤ K) {st b k : Nat} (hst : st < ld_N W) (hb : b < 2 ^ ld_b W) (hk : k < ld_o W)
    (h : Q (some (.int (nI (oa_v W T st b k)))) s) : gc_T P d 0 0 239 0 [.ref 67, .int (nI p), .int (nI st), .int (nI b), .int (nI k), gc_u] [] s Q := by
  have hok := hl.1.2.2
  have hp24 := hok.1.2.2.2.2
  have hN := ld_N_le hok
  have o3 := hok.1.2.1
  have hlv := hl.1.1
  have hb8 := p8 hok.1.2.2.1 hb
  obtain ⟨d1, d2, _⟩ := hok.2.1 k (Or.inl hk)
  refine b_X11_byOath_0 hP hm ?_
  rw [hl.1.2.1, st_lit 3, pk_mul, nI_add, nI_clamp (by omega), (hl.2.2.2.1 k hk).1, (hl.2.2.2.1 k hk).2]
  refine ⟨vp_in_nI (by omega) (by omega), vp_in_nI (by omega) (by omega), by omega, sp_changed hP hm (by omega) (by omega) (by omega) (by omega) ?_⟩
  rw [st_ch_dp]
  unfold oa_v at h
  cases e : dp_ch st (ld_tk W k) (ld_gv W k) with
  | none =>
    rw [e] at h
    exact ⟨fun y => absurd rfl y, fun _ => h⟩
  | some t =>
    rw [e] at h
    have ht := dp_ch_N hok hst d2 e
    have hTt := hTK t b ht hb
    refine ⟨fun _ => ⟨by omega, sp_spot hP hm ⟨vp_in_nI (sp3_lt (by omega) (by omega) hb8) (by omega), by omega, ?_⟩⟩, fun y => absurd y (m1_ne (by omega))⟩
    have := sp3_lt (show p < 24 by omega) (show t < 256 by omega) hb8
    rw [nI_clamp (by omega), hT.2 t b ht hb]
    exact sp_one hP hm (by omega) h
theorem sp_mbyBargain (hP : gc_Cl P) (hm : gc_Mo P) (hd : 2 ≤ d) (hl : rf_law W lv s) (hp : p < ld_p W) {T : Nat → Nat → Nat} {K : Nat} (hK : K < 2 ^ 30) (hT : rtb W o p T s) (hTK : ∀ st b, st < ld_N W → b < 2 ^ ld_b W → T st b ≤ K) {st b k : Nat} (hst : st < ld_N W) (hb : b < 2 ^ ld_b W) (hk : k < ld_b W) (hbit : b / 2 ^ k % 2 = 1)
    (h : Q (some (.int (nI (ld_bv W (3 + k) (fun t => T t (b - 2 ^ k)) st)))) s) : gc_T P d 0 0 240 0 [.ref 67, .int (nI p), .int (nI st), .int (nI b), .int (nI k), gc_u, gc_u, gc_u, gc_u] [] s Q := by
  have hok := hl.1.2.2
  have hp24 := hok.1.2.2.2.2
  have hN := ld_N_le hok
  have b3 := hok.1.2.2.1
  have hlv := hl.1.1
  have hb8 := p8 hok.1.2.2.1 hb
  have hbb := sb_bit b hb8 k (by omega) hbit
  have hb' : b - 2 ^ k < 2 ^ ld_b W := Nat.lt_of_le_of_lt (Nat.sub_le _ _) hb
  have hb8' := p8 hok.1.2.2.1 hb'
  have hdl : ld_dl W (3 + k) := Or.inr ⟨by omega, by omega⟩
  obtain ⟨d1, d2, d3⟩ := hok.2.1 (3 + k) hdl
  obtain ⟨c1, c2, c3⟩ := hl.2.2.2.2.1 k hk
  refine b_X11_byBargain_0 hP hm ?_
  rw [hl.1.2.1, st_lit 3, pk_mul, nI_add, nI_clamp (by omega), c1, c2, st_clr b hb8 k (by omega) hbit]
  refine ⟨vp_in_nI (by omega) (by omega), vp_in_nI (by omega) (by omega), by omega, sp_changed hP hm (by omega) (by omega) (by omega) (by omega) ?_⟩
  unfold ld_bv ld_do at h
  rw [st_ch_dp]
  cases e : dp_ch st (ld_tk W (3 + k)) (ld_gv W (3 + k)) with
  | none =>
    rw [e] at h
    exact ⟨fun y => absurd rfl y, fun _ => h⟩
  | some t =>
    have ht := dp_ch_N hok hst d2 e
    have hTt := hTK t _ ht hb'
    have hs1 := sp3_lt (show p < 24 by omega) (show t < 256 by omega) hb8'
    refine ⟨fun _ => ⟨by omega, sp_spot hP hm ⟨vp_in_nI hs1 (by omega), vp_in_nI (by omega) (by omega), ?_⟩⟩, fun y => absurd y (m1_ne (by omega))⟩
    rw [nI_clamp (show sp3 p t (b - 2 ^ k) < 2 ^ 31 by omega), hT.2 t _ ht hb', c1, c3]
    cases hx : ld_ot W (3 + k) with
    | zero =>
      simp only [e, hx] at h
      exact ⟨fun y => absurd rfl y, fun _ => ⟨by omega, sp_one hP hm (by omega) h⟩⟩
    | succ x =>
      refine ⟨fun _ => ⟨vp_in_nI (by omega) (by omega), vp_in_nI (by omega) (by omega), by omega, sp_changed hP hm (by omega) (by omega) (by omega) (show x < 256 by omega) ?_⟩, fun y => absurd y (m1_ne (show x < 2 ^ 31 by omega))⟩
      rw [st_ch_dp]
      cases e2 : dp_ch st (ld_tk W (3 + k)) x with
      | none =>
        simp only [e, hx, e2, Option.map_none] at h
        exact ⟨fun y => absurd rfl y, fun _ => h⟩
      | some t2 =>
        have ht2 := dp_ch_N hok hst (show x < ld_N W by omega) e2
        have hTt2 := hTK t2 _ ht2 hb'
        have hs2 := sp3_lt (show p < 24 by omega) (show t2 < 256 by omega) hb8'
        simp only [e, hx, e2, Option.map_some] at h
        refine ⟨fun _ => ⟨by omega, sp_spot hP hm ⟨vp_in_nI hs2 (by omega), by omega, ?_⟩⟩, fun y => absurd y (m1_ne (by omega))⟩
        rw [nI_clamp (show sp3 p t2 (b - 2 ^ k) < 2 ^ 31 by omega), hT.2 t2 _ ht2 hb']
        exact sp_both hP hm (by omega) (by omega) h
/-- the least by the POINT's own kind -/
def owv (W : ld_W) (o p st b x : Nat) : Prop := (x ≠ 0 → ∃ m, m ∈ mv_own W p st b ∧ dp_by W o m = x) ∧ (∀ m, m ∈ mv_own W p st b → dp_bt x (dp_by W o m)) ∧ x ≤ 92161
theorem owv_of (hok : ld_ok W) {st x : Nat} (hp : p < ld_p W) (hst : st < ld_N W) (hb : b < 8) (hr : (mv_own W p st b = [] ∧ x = 0) ∨ (∃ m, mv_own W p st b = [m] ∧ x = dp_by W o m) ∨ (∃ m m', mv_own W p st b = [m, m'] ∧ x = dp_lst (dp_by W o m) (dp_by W o m'))) : owv W o p st b x := by
  have h1 : x ≠ 0 → ∃ m, m ∈ mv_own W p st b ∧ dp_by W o m = x := by
    intro hne
    rcases hr with ⟨e, z⟩ | ⟨m, e, z⟩ | ⟨m, m', e, z⟩
    · exact absurd z hne
    · exact ⟨m, by rw [e]; simp, z.symm⟩
    · rcases dp_lst_or (dp_by W o m) (dp_by W o m') with y | y
      · exact ⟨m, by rw [e]; simp, by rw [z, y]⟩
      · exact ⟨m', by rw [e]; simp, by rw [z, y]⟩
  refine ⟨h1, fun m hm => ?_, ?_⟩
  · rcases hr with ⟨e, z⟩ | ⟨m1, e, z⟩ | ⟨m1, m2, e, z⟩
    · rw [e] at hm
      simp at hm
    · rw [e] at hm
      simp only [List.mem_singleton] at hm
      subst hm
      rw [z]
      exact dp_bt_refl _
    · rw [e] at hm
      simp only [List.mem_cons, List.not_mem_nil, or_false] at hm
      rw [z]
      rcases hm with e1 | e1
      · rw [e1]
        exact dp_lst_l _ _
      · rw [e1]
        exact dp_lst_r _ _
  · by_cases z : x = 0
    · omega
    · obtain ⟨m, hm, hby⟩ := h1 z
      have := dp_by_le (o := o) hok hp hst hb (mv_all_mem.mpr (Or.inl hm))
      omega
/-- a table that is right below a POINT -/
def rtd (W : ld_W) (o p : Nat) (s : gc_St) : Prop := ∀ p', p' < p → ∀ st b, st < ld_N W → b < 2 ^ ld_b W → gc_I s 100 (sp3 p' st b) = nI (dp_D W o p' st b)
theorem sp_mbySplit (hP : gc_Cl P) (hm : gc_Mo P) (hd : 2 ≤ d) (hl : rf_law W lv s) (hp : p < ld_p W) (hk : ld_kd W p = 5) (hT : rtd W o p s) {st b : Nat} (hst : st < ld_N W) (hb : b < 2 ^ ld_b W) (h : ∀ x, owv W o p st b x → Q (some (.int (nI x))) s) : gc_T P d 0 0 237 0 [.ref 67, .int (nI (ld_fi W p)), .int (nI (ld_se W p)), .int (nI st), .int (nI b), gc_u, gc_u, gc_u, gc_u] [] s Q := by
  have hok := hl.1.2.2
  have hp24 := hok.1.2.2.2.2
  have hN := ld_N_le hok
  have hb8 := p8 hok.1.2.2.1 hb
  have hpp := ld_part hok hp (by omega)
  have hps := hpp.2.2.1 (by omega)
  refine b_X11_bySplit_0 hP hm ?_
  -- what has been gone through
  have inv : ∀ u x : Nat, Prop := fun u x => True
  have key : ∀ n u, u + n = st + 1 → ∀ x (l7 l8 : Value), (x ≠ 0 → ∃ u' c, st_in u' st = true ∧ u' < 256 ∧ sb_in c b = true ∧ c < 8 ∧ dp_both (dp_D W o (ld_fi W p) u' c) (dp_D W o (ld_se W p) (st - u') (b - c)) = x) → (∀ u' c, u' < u → st_in u' st = true → c < 8 → sb_in c b = true → dp_bt x (dp_both (dp_D W o (ld_fi W p) u' c) (dp_D W o (ld_se W p) (st - u') (b - c)))) → x ≤ 92161 →
      gc_T P d 0 0 237 6 [.ref 67, .int (nI (ld_fi W p)), .int (nI (ld_se W p)), .int (nI st), .int (nI b), .int (nI x), .int (nI u), l7, l8] [] s Q := by
    intro n
    induction n with
    | zero =>
      intro u hu x l7 l8 h1 h2 h3
      refine b_X11_bySplit_6 hP hm (pk_lt st u (fun _ => h x ⟨fun hne => ?_, fun m hmm => ?_, h3⟩) (fun z => by omega))
      · obtain ⟨u', c, g1, g2, g3, g4, g5⟩ := h1 hne
        refine ⟨(6, [(ld_fi W p, u', c), (ld_se W p, st - u', b - c)], nI u', nI c), ?_, g5⟩
        rw [mv_own_5 hk]
        simp only [List.mem_flatMap, List.mem_map]
        exact ⟨u', (mv_ss_mem (by omega)).mpr ⟨g1, g2⟩, c, (mv_bs_mem hb8).mpr ⟨g3, g4⟩, rfl⟩
      · rw [mv_own_5 hk] at hmm
        simp only [List.mem_flatMap, List.mem_map] at hmm
        obtain ⟨u', hu', c, hc, rfl⟩ := hmm
        have g1 := (mv_ss_mem (by omega)).mp hu'
        have g2 := (mv_bs_mem hb8).mp hc
        have := st_in_le (by omega) g1.2 g1.1
        exact h2 u' c (by omega) g1.1 g2.2 g2.1
    | succ n ih =>
      intro u hu x l7 l8 h1 h2 h3
      refine b_X11_bySplit_6 hP hm (pk_lt st u (fun z => by omega) (fun _ => ⟨by omega, sp_less hP hm (by omega) (by omega) ?_⟩))
      unfold st_less
      by_cases hin : st_in u st = true
      · rw [if_pos hin]
        have hle := st_in_le (show st < 256 by omega) (show u < 256 by omega) hin
        refine ⟨fun _ => ?_, fun y => absurd y (m1_ne (by omega))⟩
        have inner : ∀ n2 c, c + n2 = b + 1 → ∀ x, (x ≠ 0 → ∃ u' c, st_in u' st = true ∧ u' < 256 ∧ sb_in c b = true ∧ c < 8 ∧ dp_both (dp_D W o (ld_fi W p) u' c) (dp_D W o (ld_se W p) (st - u') (b - c)) = x) → (∀ u' c', (u' < u ∨ (u' = u ∧ c' < c)) → st_in u' st = true → c' < 8 → sb_in c' b = true → dp_bt x (dp_both (dp_D W o (ld_fi W p) u' c') (dp_D W o (ld_se W p) (st - u') (b - c')))) → x ≤ 92161 →
            gc_T P d 0 0 237 32 [.ref 67, .int (nI (ld_fi W p)), .int (nI (ld_se W p)), .int (nI st), .int (nI b), .int (nI x), .int (nI u), .int (nI (st - u)), .int (nI c)] [] s Q := by
          intro n2
          induction n2 with
          | zero =>
            intro c hc x g1 g2 g3
            refine b_X11_bySplit_32 hP hm (pk_lt b c (fun _ => b_X11_bySplit_94 hP hm ?_) (fun z => by omega))
            rw [nI_1]
            refine ih (u + 1) (by omega) x _ _ g1 (fun u' c' z1 z2 z3 z4 => g2 u' c' ?_ z2 z3 z4) g3
            have := (sb_le b hb8 c' z3 z4).1
            omega
          | succ n2 ih2 =>
            intro c hc x g1 g2 g3
            refine b_X11_bySplit_32 hP hm (pk_lt b c (fun z => by omega) (fun _ => ?_))
            rw [st_subI c (by omega) b hb8]
            cases hcb : sb_in c b with
            | false =>
              refine ⟨fun _ => b_X11_bySplit_88 hP hm ?_, fun y => absurd y (by decide)⟩
              rw [nI_1]
              refine ih2 (c + 1) (by omega) x g1 (fun u' c' z1 z2 z3 z4 => g2 u' c' ?_ z2 z3 z4) g3
              by_cases e : c' = c
              · rw [e, hcb] at z4
                exact absurd z4 (by decide)
              · omega
            | true =>
              have hcle := (sb_le b hb8 c (by omega) hcb).1
              have hc1 : c < 2 ^ ld_b W := by omega
              have hc2 : b - c < 2 ^ ld_b W := by omega
              have hs1 := sp3_lt (show ld_fi W p < 24 by omega) (show u < 256 by omega) (show c < 8 by omega)
              have hs2 := sp3_lt (show ld_se W p < 24 by omega) (show st - u < 256 by omega) (show b - c < 8 by omega)
              have hD1 := dp_D_max (o := o) hok (show ld_fi W p < ld_p W by omega) (show u < ld_N W by omega) (show c < 8 by omega)
              have hD2 := dp_D_max (o := o) hok (show ld_se W p < ld_p W by omega) (show st - u < ld_N W by omega) (show b - c < 8 by omega)
              refine ⟨fun y => absurd rfl y, fun _ => ⟨by omega, sp_spot hP hm ⟨vp_in_nI hs1 (by omega), by omega, ?_⟩⟩⟩
              rw [pk_sub hcle, nI_clamp (show sp3 (ld_fi W p) u c < 2 ^ 31 by omega), hT _ (by omega) u c (by omega) hc1]
              refine sp_spot hP hm ⟨vp_in_nI hs2 (by omega), by omega, ?_⟩
              rw [nI_clamp (show sp3 (ld_se W p) (st - u) (b - c) < 2 ^ 31 by omega), hT _ (by omega) (st - u) (b - c) (by omega) hc2]
              have hbo := dp_both_le hD1 hD2
              refine sp_both hP hm (by omega) (by omega) ⟨by omega, sp_mleast hP hm (by omega) (by omega) (b_X11_bySplit_88 hP hm ?_)⟩
              rw [nI_1]
              refine ih2 (c + 1) (by omega) _ (fun hne => ?_) (fun u' c' z1 z2 z3 z4 => ?_) (dp_lst_le g3 hbo)
              · rcases dp_lst_or x (dp_both (dp_D W o (ld_fi W p) u c) (dp_D W o (ld_se W p) (st - u) (b - c))) with e | e
                · rw [e] at hne ⊢
                  exact g1 hne
                · rw [e]
                  exact ⟨u, c, hin, by omega, hcb, by omega, rfl⟩
              · by_cases e : u' = u ∧ c' = c
                · rw [e.1, e.2]
                  exact dp_lst_r _ _
                · exact dp_bt_trans (dp_lst_l _ _) (g2 u' c' (by omega) z2 z3 z4)
        refine inner (b + 1) 0 (by omega) x h1 (fun u' c' z1 z2 z3 z4 => ?_) h3
        rcases z1 with z1 | z1
        · exact h2 u' c' z1 z2 z3 z4
        · omega
      · rw [if_neg hin]
        refine ⟨fun y => absurd rfl y, fun _ => b_X11_bySplit_94 hP hm ?_⟩
        rw [nI_1]
        refine ih (u + 1) (by omega) x _ _ h1 (fun u' c' z1 z2 z3 z4 => ?_) h3
        by_cases e : u' = u
        · rw [e] at z2
          exact absurd z2 hin
        · exact h2 u' c' (by omega) z2 z3 z4
  exact key (st + 1) 0 (by omega) 0 _ _ (fun z => absurd rfl z) (fun u' c z => absurd z (Nat.not_lt_zero _)) (by omega)
theorem sp_byKind (hP : gc_Cl P) (hm : gc_Mo P) (hd : 3 ≤ d) (hl : rf_law W lv s) (hp : p < ld_p W) (hT : rtd W o p s) {st b : Nat} (hst : st < ld_N W) (hb : b < 2 ^ ld_b W) (h : ∀ x, owv W o p st b x → Q (some (.int (nI x))) s) : gc_T P d 0 0 233 0 [.ref 67, .int (nI p), .int (nI st), .int (nI b), gc_u, gc_u, gc_u] [] s Q := by
  have hok := hl.1.2.2
  have hp24 := hok.1.2.2.2.2
  have hN := ld_N_le hok
  have hN1 : 0 < ld_N W := Nat.pow_pos (by decide)
  have hg4 := hok.1.1
  have hb8 := p8 hok.1.2.2.1 hb
  have hpt := hok.2.2.2.2.2 p hp
  have hk7 : ld_kd W p ≤ 7 := by
    unfold ld_pt at hpt
    omega
  have ow := fun x hr => h x (owv_of hok hp hst hb8 hr)
  have get : ∀ q t c, q < p → t < ld_N W → c < 2 ^ ld_b W → vp_in (nI (sp3 q t c)) 49152 ∧ gc_I s 100 (nI (sp3 q t c)).toNatClampNeg = nI (dp_D W o q t c) ∧ dp_D W o q t c ≤ 92160 := by
    intro q t c h1 h2 h3
    have h8 := p8 hok.1.2.2.1 h3
    have hs1 := sp3_lt (show q < 24 by omega) (show t < 256 by omega) h8
    refine ⟨vp_in_nI hs1 (by omega), ?_, dp_D_max hok (by omega) h2 h8⟩
    rw [nI_clamp (by omega)]
    exact hT q h1 t c h2 h3
  refine b_X11_byKind_0 hP hm ⟨by omega, sp_mfirst hP hm hl hp ⟨by omega, sp_msecond hP hm hl hp ⟨by omega, sp_mkind hP hm hl hp ?_⟩⟩⟩
  show _ ∧ _
  rw [nI_toInt (by omega)]
  have ef : 3 ≤ ld_kd W p ∨ ld_kd W p = 0 → ld_fI W p = nI (ld_fi W p) := by
    intro z
    unfold ld_fI
    rw [if_neg (by omega)]
  have es : ld_kd W p = 3 ∨ ld_kd W p = 4 ∨ ld_kd W p = 5 ∨ ld_kd W p = 7 → ld_sI W p = nI (ld_se W p) := by
    intro z
    unfold ld_sI
    rw [if_pos z]
  refine ⟨fun z => ?_, fun z => ?_, fun z => ?_, fun z => ?_, fun z => ?_, fun z => ?_, fun z => ?_, fun z => ?_⟩
  · have hk : ld_kd W p = 0 := by omega
    have hf : ld_fi W p < ld_g W := by
      unfold ld_pt at hpt
      omega
    have hx : 4 ^ ld_fi W p < 256 := Nat.lt_of_lt_of_le (Nat.pow_lt_pow_right (by decide) hf) hN
    rw [ef (by omega), ld_shN (by omega), nI_eq (by omega) (by omega)]
    refine ⟨fun y => ow 0 (Or.inl ⟨by rw [mv_own_0 hk, if_neg y], rfl⟩), fun y => ow 1 (Or.inr (Or.inl ⟨_, by rw [mv_own_0 hk, if_pos y], rfl⟩))⟩
  · have hk : ld_kd W p = 1 := by omega
    rw [show (0 : Int32) = nI 0 from rfl, nI_eq (by omega) (by omega)]
    refine ⟨fun y => ow 0 (Or.inl ⟨by rw [mv_own_1 hk, if_neg y], rfl⟩), fun y => ow 1 (Or.inr (Or.inl ⟨_, by rw [mv_own_1 hk, if_pos y], rfl⟩))⟩
  · exact ow 1 (Or.inr (Or.inl ⟨_, mv_own_2 (by omega), rfl⟩))
  · have hk : ld_kd W p = 3 := by omega
    have hpp := ld_part hok hp (by omega)
    have hps := hpp.2.2.1 (by omega)
    obtain ⟨g1, g2, g3⟩ := get (ld_fi W p) st b (by omega) hst hb
    obtain ⟨k1, k2, k3⟩ := get (ld_se W p) st b (by omega) hst hb
    rw [ef (by omega), es (by omega)]
    refine ⟨by omega, sp_spot hP hm ⟨g1, by omega, ?_⟩⟩
    rw [g2]
    have h1 := dp_one_le g3
    have h2 := dp_one_le k3
    refine sp_one hP hm (by omega) ⟨by omega, sp_spot hP hm ⟨k1, by omega, ?_⟩⟩
    rw [k2]
    exact sp_one hP hm (by omega) ⟨by omega, sp_mleast hP hm (by omega) (by omega) (ow _ (Or.inr (Or.inr ⟨_, _, mv_own_3 hk, rfl⟩)))⟩
  · have hk : ld_kd W p = 4 := by omega
    have hpp := ld_part hok hp (by omega)
    have hps := hpp.2.2.1 (by omega)
    obtain ⟨g1, g2, g3⟩ := get (ld_fi W p) st b (by omega) hst hb
    obtain ⟨k1, k2, k3⟩ := get (ld_se W p) st b (by omega) hst hb
    rw [ef (by omega), es (by omega)]
    refine ⟨by omega, sp_spot hP hm ⟨g1, by omega, sp_spot hP hm ⟨k1, by omega, ?_⟩⟩⟩
    rw [g2, k2]
    exact sp_both hP hm (by omega) (by omega) (ow _ (Or.inr (Or.inl ⟨_, mv_own_4 hk, rfl⟩)))
  · have hk : ld_kd W p = 5 := by omega
    rw [ef (by omega), es (by omega)]
    exact ⟨by omega, sp_mbySplit hP hm (by omega) hl hp hk hT hst hb h⟩
  · have hk : ld_kd W p = 6 := by omega
    have hpp := ld_part hok hp (by omega)
    obtain ⟨g1, g2, g3⟩ := get (ld_fi W p) 0 0 (by omega) hN1 (Nat.pow_pos (by decide))
    rw [ef (by omega), show (0 : Int32) = nI 0 from rfl, nI_eq (by omega) (by omega)]
    refine ⟨fun y => ow 0 (Or.inl ⟨by rw [mv_own_6 hk, if_neg y], rfl⟩), fun y => ⟨by omega, sp_spot hP hm ⟨g1, by omega, ?_⟩⟩⟩
    rw [g2]
    exact sp_one hP hm (by omega) (ow _ (Or.inr (Or.inl ⟨_, by rw [mv_own_6 hk, if_pos y], rfl⟩)))
  · have hk : ld_kd W p = 7 := by omega
    have hpp := ld_part hok hp (by omega)
    have hsN := hpp.2.2.2.2 hk
    rw [ef (by omega), es (by omega)]
    refine ⟨by omega, sp_plus hP hm (by omega) (by omega) ?_⟩
    unfold st_plus
    by_cases y : st_fit st (ld_se W p) = true
    · rw [if_pos y]
      have hlt := ld_lt hok hst hsN y
      obtain ⟨g1, g2, g3⟩ := get (ld_fi W p) (st + ld_se W p) b (by omega) hlt hb
      refine ⟨fun _ => ⟨by omega, sp_spot hP hm ⟨g1, by omega, ?_⟩⟩, fun y => absurd y (m1_ne (by omega))⟩
      rw [g2]
      exact sp_one hP hm (by omega) (ow _ (Or.inr (Or.inl ⟨_, by rw [mv_own_7 hk, if_pos y], rfl⟩)))
    · rw [if_neg y]
      exact ⟨fun z => absurd rfl z, fun _ => ow 0 (Or.inl ⟨by rw [mv_own_7 hk, if_neg y], rfl⟩)⟩
end Rb
