/-! Rows of depths: the class's small methods. -/
/-- a row holds these numbers -/
def rs_w (s : gc_St) (a : Nat) (r : Nat → Nat) : gc_St := gc_wR s a (fun i => nI (r i))
def rs_u (r : Nat → Nat) (i v : Nat) : Nat → Nat := fun j => if j = i then v else r j
theorem rs_I (s : gc_St) (a : Nat) (r : Nat → Nat) (i : Nat) : gc_I (rs_w s a r) a i = nI (r i) := by
  unfold rs_w
  rw [rw_I_wR, if_pos rfl]
theorem rs_In (s : gc_St) {a b : Nat} (r : Nat → Nat) (h : b ≠ a) : gc_I (rs_w s a r) b = gc_I s b := by
  funext i
  unfold rs_w
  rw [rw_I_wR, if_neg h]
theorem rs_wI (s : gc_St) (a : Nat) (r : Nat → Nat) (i v : Nat) : gc_wI (rs_w s a r) a i (nI v) = rs_w s a (rs_u r i v) := by
  refine gc_ext rfl ?_ rfl
  funext q j
  rw [rw_I_wI]
  by_cases e : q = a
  · subst e
    rw [if_pos rfl, rs_I, rs_I]
    unfold rs_u
    by_cases e2 : j = i
    · rw [if_pos e2, if_pos e2]
    · rw [if_neg e2, if_neg e2]
  · rw [if_neg e, rs_In s r e, rs_In s _ e]
theorem rs_u_id {r : Nat → Nat} {i v : Nat} (h : v = r i) : rs_u r i v = r := by
  funext j
  unfold rs_u
  by_cases e : j = i
  · rw [if_pos e, h, e]
  · rw [if_neg e]
/-- any row holds numbers -/
theorem rs_any (s : gc_St) (a : Nat) : s = rs_w s a (fun i => (gc_I s a i).toBitVec.toNat) := by
  refine gc_ext rfl ?_ rfl
  funext q j
  by_cases e : q = a
  · subst e
    rw [rs_I]
    apply Int32.toBitVec_inj.1
    show _ = BitVec.ofNat 32 _
    rw [BitVec.ofNat_toNat]
    simp
  · rw [rs_In s _ e]
theorem rs_rs (s : gc_St) (a : Nat) (r q : Nat → Nat) : rs_w (rs_w s a r) a q = rs_w s a q := by
  refine gc_ext rfl ?_ rfl
  funext b j
  by_cases e : b = a
  · subst e
    rw [rs_I, rs_I]
  · rw [rs_In _ _ e, rs_In _ _ e, rs_In _ _ e]
theorem dp_lst_0 (x : Nat) : dp_lst x 0 = x := by
  unfold dp_lst
  split <;> omega
theorem m1_ne {n : Nat} (h : n < 2 ^ 31) : ¬ nI n = -1 := by
  rw [st_m1]
  intro e
  have e2 := congrArg (fun x : Int32 => x.toBitVec.toNat) e
  rw [pk_tn (by omega), pk_tn (by decide)] at e2
  omega
theorem st_bitI {o k : Nat} (ho : o < 2 ^ 31) (hk : k < 32) : ((nI o >>> (nI k &&& 31)) &&& 1 = 0 ↔ o / 2 ^ k % 2 ≠ 1) := by
  rw [st_shr ho hk, st_and1 (Nat.lt_of_le_of_lt (Nat.div_le_self _ _) (by omega)), show (0 : Int32) = nI 0 from rfl, nI_eq (by omega) (by omega)]
  omega
theorem st_nx_spec {a f : Nat} (ha : a < 256) (hf : f < 256) (h : st_in f a = true) : a < st_nxa a f ∧ st_nxa a f < 512 ∧ (∀ t, a < t → t < 256 → t < st_nxa a f → st_in f t = false) ∧ (st_nxa a f < 256 → st_in f (st_nxa a f) = true) := by
  have h1 := st_nx a ha f hf h
  have h2 := tk_run_ge (p := fun x => !st_in f x) (255 - a) (a + 1)
  refine ⟨by omega, st_nxlt a ha f hf, fun t h3 h4 h5 => ?_, fun h3 => ?_⟩
  · have := tk_run_all (p := fun x => !st_in f x) (255 - a) (a + 1) t (by omega) (by omega)
    simpa using this
  · have := tk_run_end (p := fun x => !st_in f x) (255 - a) (a + 1) (by omega)
    rw [← h1, Nat.min_eq_left (by omega)] at this
    simpa using this
section Sm
variable {P : gc_Pr} {d : Nat} {s : gc_St} {Q : gc_TQ}
theorem sp_isSubset (hP : gc_Cl P) (hm : gc_Mo P) {c b : Nat} (hc : c < 8) (hb : b < 8) (h : Q (some (.int (cb (sb_in c b)))) s) : gc_T P d 0 0 167 0 [.int (nI c), .int (nI b)] [] s Q := by
  refine b_X10_isSubset_0 hP hm ?_
  rw [st_subI c hc b hb]
  refine ⟨fun z => ?_, fun z => ?_⟩
  · rw [show sb_in c b = false by simpa using z] at h
    exact h
  · rw [z] at h
    exact h
theorem sp_hasBit (hP : gc_Cl P) (hm : gc_Mo P) {o k : Nat} (ho : o < 2 ^ 31) (hk : k < 32) (h : Q (some (.int (cb (decide (o / 2 ^ k % 2 = 1))))) s) : gc_T P d 0 0 165 0 [.int (nI o), .int (nI k)] [] s Q := by
  refine b_X10_hasBit_0 hP hm ?_
  rw [st_bitI ho hk]
  refine ⟨fun z => ?_, fun z => ?_⟩
  · rw [decide_eq_false z] at h
    exact h
  · rw [decide_eq_true (by omega)] at h
    exact h
theorem sp_nextAbove (hP : gc_Cl P) (hm : gc_Mo P) {a f : Nat} (ha : a < 256) (hf : f < 256) (h : Q (some (.int (nI (st_nxa a f)))) s) : gc_T P d 0 0 170 0 [.int (nI a), .int (nI f), gc_u, gc_u, gc_u] [] s Q := by
  have fin : ∀ (x y : Int32), x = nI (st_lg a) → gc_T P d 0 0 170 24 [.int (nI a), .int (nI f), .int (nI a + 1), .int y, gc_u] [.int x] s Q := by
    intro x y e
    refine b_X10_nextAbove_24 hP hm ?_
    rw [e, nI_1, show (1 : Int32) = nI 1 from rfl, pk_sub (st_lg_1 a ha), st_and, st_or]
    exact h
  have h1 := st_lg_ok a ha
  exact b_X10_nextAbove_0 hP hm ⟨fun z => fin _ _ (h1.1 z), fun z => fin _ _ (h1.2 z)⟩
theorem sp_deeper (hP : gc_Cl P) (hm : gc_Mo P) (hd : 1 ≤ d) {x y : Nat} (hx : x < 2 ^ 31) (hy : y < 2 ^ 31) (h : ∀ z, dp_one z = dp_both x y → z ≤ max x y → Q (some (.int (nI z))) s) : gc_T P d 0 0 18 0 [.int (nI x), .int (nI y)] [] s Q := by
  refine b_X0_deeper_0 hP hm (pk_eq x 0 (fun z => ?_) (fun z => ?_))
  · exact h 0 (by unfold dp_one dp_both; simp [z]) (by omega)
  · refine ⟨fun w => ⟨hd, ?_⟩, fun w => ?_⟩
    · have w2 : y ≠ 0 := fun e => w (by rw [e]; rfl)
      by_cases e : x < y
      · rw [if_pos ((nI_ltI hx hy).mpr e)]
        refine h y ?_ (by omega)
        unfold dp_one dp_both
        rw [if_neg w2, if_neg (by omega), if_neg (by omega)]
      · rw [if_neg (fun c => e ((nI_ltI hx hy).mp c))]
        refine h x ?_ (by omega)
        unfold dp_one dp_both
        rw [if_neg z, if_neg (by omega)]
        split <;> omega
    · rw [show (0 : Int32) = nI 0 from rfl, nI_eq hy (by omega)] at w
      exact h 0 (by unfold dp_one dp_both; simp [w]) (by omega)
theorem sp_improve (hP : gc_Cl P) (hm : gc_Mo P) {a st x : Nat} {r : Nat → Nat} (hg : gc_gk s a = (0, 256)) (hst : st < 256) (hx : x + 1 < 2 ^ 31) (hr : r st < 2 ^ 31)
    (h : Q (some (.int (cb (!decide (dp_lst (r st) (dp_one x) = r st))))) (rs_w s a (rs_u r st (dp_lst (r st) (dp_one x))))) : gc_T P d 0 0 19 0 [.ref a, .int (nI st), .int (nI x)] [] (rs_w s a r) Q := by
  have hgk : gc_gk (rs_w s a r) a = (0, 256) := hg
  have same : dp_lst (r st) (dp_one x) = r st → Q (some (.int 0)) (rs_w s a r) := by
    intro e
    rw [e, rs_u_id rfl, decide_eq_true rfl] at h
    exact h
  have new : x ≠ 0 → dp_lst (r st) (dp_one x) = x + 1 → r st ≠ x + 1 → gc_T P d 0 0 19 21 [.ref a, .int (nI st), .int (nI x)] [] (rs_w s a r) Q := by
    intro e0 e e2
    refine b_X0_improve_21 hP hm ⟨by rw [hgk], by rw [hgk]; exact vp_in_nI hst (by omega), ?_⟩
    rw [nI_clamp (by omega), nI_1, rs_wI]
    rw [e, decide_eq_false (fun z => e2 z.symm)] at h
    exact h
  refine b_X0_improve_0 hP hm (pk_eq x 0 (fun z => same ?_) (fun z => ⟨by rw [hgk], by rw [hgk]; exact vp_in_nI hst (by omega), ?_⟩))
  · rw [z]
    exact dp_lst_0 _
  · have e1 : dp_one x = x + 1 := by unfold dp_one; rw [if_neg z]
    rw [nI_clamp (by omega), rs_I]
    refine pk_eq (r st) 0 (fun w => new z ?_ (by omega)) (fun w => ⟨by rw [hgk], by rw [hgk]; exact vp_in_nI hst (by omega), ?_⟩)
    · rw [e1]
      unfold dp_lst
      rw [if_pos (Or.inl w)]
    · rw [nI_1]
      refine pk_lt (x + 1) (r st) (fun v => new z ?_ (by omega)) (fun v => same ?_)
      · rw [e1]
        unfold dp_lst
        rw [if_pos (Or.inr ⟨by omega, v⟩)]
      · rw [e1]
        unfold dp_lst
        rw [if_neg (by omega)]
/-- a row is filled with one number -/
theorem sp_fill (hP : gc_Cl P) (hm : gc_Mo P) {a n v : Nat} {r : Nat → Nat} (hg : gc_gk s a = (0, n)) (hn : n < 2 ^ 31) (h : Q none (rs_w s a (fun j => if j < n then v else r j))) : gc_T P d 0 0 295 0 [.ref a, .int (nI v), gc_u, gc_u] [] (rs_w s a r) Q := by
  have hgk : ∀ r, gc_gk (rs_w s a r) a = (0, n) := fun _ => hg
  refine b_J7_fill_53178_0 hP hm ⟨by rw [hgk]; rfl, ?_⟩
  rw [hgk]
  have key : ∀ m k, k + m = n → gc_T P d 0 0 295 5 [.ref a, .int (nI v), .int (nI k), .int (Int32.ofNat n)] [] (rs_w s a (fun j => if j < k then v else r j)) Q := by
    intro m
    induction m with
    | zero =>
      intro k hk
      obtain rfl : k = n := by omega
      exact b_J7_fill_53178_5 hP hm (pk_le k k (fun _ => h) (fun z => absurd z (Nat.lt_irrefl _)))
    | succ m ih =>
      intro k hk
      refine b_J7_fill_53178_5 hP hm (pk_le n k (fun z => by omega) (fun z => ⟨by rw [hgk], by rw [hgk]; exact vp_in_nI z hn, ?_⟩))
      have := ih (k + 1) (by omega)
      rw [nI_clamp (by omega), rs_wI, nI_1]
      rw [show rs_u (fun j => if j < k then v else r j) k v = (fun j => if j < k + 1 then v else r j) from ?_]
      · exact this
      · funext j
        unfold rs_u
        by_cases e : j = k
        · rw [if_pos e, if_pos (by omega)]
        · rw [if_neg e]
          show (if j < k then v else r j) = _
          by_cases e2 : j < k
          · rw [if_pos e2, if_pos (by omega)]
          · rw [if_neg e2, if_neg (by omega)]
  have := key n 0 (by omega)
  rw [show (fun j => if j < 0 then v else r j) = r from by funext j; rw [if_neg (by omega)]] at this
  exact this
end Sm
/-! The law in the class's cells. -/
def ld_fI (W : ld_W) (p : Nat) : Int32 := if ld_kd W p = 1 ∨ ld_kd W p = 2 then -1 else nI (ld_fi W p)
def ld_sI (W : ld_W) (p : Nat) : Int32 := if ld_kd W p = 3 ∨ ld_kd W p = 4 ∨ ld_kd W p = 5 ∨ ld_kd W p = 7 then nI (ld_se W p) else -1
def ld_oI (x : Nat) : Int32 := match x with
  | 0 => -1
  | y + 1 => nI y
def ld_dl (W : ld_W) (k : Nat) : Prop := k < ld_o W ∨ (3 ≤ k ∧ k < 3 + ld_b W)
def cl_lw (W : ld_W) (F : Nat → Int32) (A : Nat → Nat → Int32) : Prop :=
  (F 0 = nI (ld_g W) ∧ F 1 = nI (ld_o W) ∧ F 2 = nI (ld_b W) ∧ F 3 = nI (ld_c W) ∧ F 4 = nI (ld_p W)) ∧
  (∀ g, g < ld_g W → A 7 g = nI (ld_pr W g)) ∧
  (∀ k, ld_dl W k → A 8 k = nI (ld_tk W k) ∧ A 9 k = nI (ld_gv W k) ∧ A 10 k = ld_oI (ld_ot W k)) ∧
  (∀ c, c < ld_c W → A 11 c = nI (ld_wo W c) ∧ A 12 c = nI (ld_ro W c)) ∧
  (∀ p, p < ld_p W → A 13 p = nI (ld_kd W p) ∧ A 14 p = ld_fI W p ∧ A 15 p = ld_sI W p ∧ A 16 p = nI (ld_lo W p))
def cl_L (L : Nat) : Prop := L = 11 ∨ L = 54
def cl_law (W : ld_W) (L : Nat) (s : gc_St) : Prop := cl_lw W (gc_F s L) (fun j => gc_I s (gc_rS L j))
theorem cl_io {L : Nat} (h : cl_L L) : gc_io 2 L := by
  rcases h with rfl | rfl
  · exact ⟨by decide, rfl⟩
  · exact ⟨by decide, rfl⟩
theorem cl_rS_lt {L : Nat} (h : cl_L L) (j : Nat) : gc_rS L j ≤ 66 := by
  rcases Nat.lt_or_ge j 19 with e | e
  · have h1 : ∀ j, j < 19 → gc_rS 11 j ≤ 66 ∧ gc_rS 54 j ≤ 66 := by decide
    rcases h with rfl | rfl
    · exact (h1 j e).1
    · exact (h1 j e).2
  · have : gc_rS L j = 0 := by
      unfold gc_rS
      rw [List.getD_eq_getElem?_getD, List.getElem?_eq_none]
      · rfl
      · rcases h with rfl | rfl
        · exact e
        · exact e
    omega
theorem cl_law_of {W : ld_W} {L : Nat} {s t : gc_St} (hF : gc_F t L = gc_F s L) (hI : ∀ j, gc_I t (gc_rS L j) = gc_I s (gc_rS L j)) (h : cl_law W L s) : cl_law W L t := by
  unfold cl_law at h ⊢
  rw [hF, show (fun j => gc_I t (gc_rS L j)) = (fun j => gc_I s (gc_rS L j)) from funext hI]
  exact h
/-- a deal with a STOCK: what comes of it -/
def ld_do (W : ld_W) (k st : Nat) : Option (Nat × Option Nat) := match dp_ch st (ld_tk W k) (ld_gv W k) with
  | none => none
  | some t => (match ld_ot W k with
    | 0 => some (t, none)
    | x + 1 => (dp_ch st (ld_tk W k) x).map (fun t2 => (t, some t2)))
def ld_t0 (W : ld_W) (k st : Nat) : Int32 := match ld_do W k st with
  | none => -1
  | some r => nI r.1
def ld_t1 (W : ld_W) (k st : Nat) : Int32 := match ld_do W k st with
  | some (_, some t) => nI t
  | _ => -1
def cl_tg (W : ld_W) (s : gc_St) : Prop := ∀ k, ld_dl W k → ∀ st, st < ld_N W → gc_I s 27 (512 * k + st) = ld_t0 W k st ∧ gc_I s 27 (512 * k + 256 + st) = ld_t1 W k st
/-- the law, read well, with what its deals come to -/
def cl_C (W : ld_W) (L : Nat) (s : gc_St) : Prop := cl_L L ∧ gc_lw s = L ∧ cl_law W L s ∧ ld_ok W ∧ cl_tg W s
theorem cl_C_rs {W : ld_W} {L a : Nat} {s : gc_St} (ha : 67 ≤ a) (h : cl_C W L s) (r : Nat → Nat) : cl_C W L (rs_w s a r) := by
  refine ⟨h.1, h.2.1, cl_law_of (s := s) (t := rs_w s a r) rfl (fun j => rs_In s r (by have := cl_rS_lt h.1 j; omega)) h.2.2.1, h.2.2.2.1, ?_⟩
  intro k hk st hst
  rw [rs_In s r (by omega)]
  exact h.2.2.2.2 k hk st hst
theorem ld_dl_lt {W : ld_W} (h : ld_ok W) {k : Nat} (hk : ld_dl W k) : k < 6 := by
  have h1 := h.1.2.1
  have h2 := h.1.2.2.1
  unfold ld_dl at hk
  omega
section Sn
variable {P : gc_Pr} {d : Nat} {s : gc_St} {Q : gc_TQ} {W : ld_W} {L : Nat}
theorem ld_shN {g : Nat} (hg : g ≤ 4) : (1 : Int32) <<< (((2 : Int32) * nI g) &&& 31) = nI (4 ^ g) := by
  rw [st_lit 2, pk_mul, show (1 : Int32) = nI 1 from rfl, st_shl (by omega) (by rw [Nat.one_mul]; exact Nat.lt_of_le_of_lt (Nat.pow_le_pow_right (by decide) (show 2 * g ≤ 8 by omega)) (by decide)), Nat.one_mul, Nat.pow_mul]
theorem sp_stockCount (hP : gc_Cl P) (hm : gc_Mo P) (hL : cl_L L) (hl : cl_law W L s) (ho : ld_ok W) (h : Q (some (.int (nI (ld_N W)))) s) : gc_T P d 0 0 25 0 [.ref L] [] s Q := by
  refine b_X2_stockCount_0 hP hm (cl_io hL) ?_
  rw [hl.1.1, ld_shN ho.1.1]
  exact h
theorem sp_target (hP : gc_Cl P) (hm : gc_Mo P) (hC : cl_C W L s) {k w st : Nat} (hk : ld_dl W k) (hw : w < 2) (hst : st < ld_N W) (h : Q (some (.int (if w = 0 then ld_t0 W k st else ld_t1 W k st))) s) : gc_T P d 0 0 3 0 [.ref 10, .int (nI k), .int (nI w), .int (nI st)] [] s Q := by
  have h6 := ld_dl_lt hC.2.2.2.1 hk
  have hN := ld_N_le hC.2.2.2.1
  refine b_X0_target_0 hP hm ?_
  rw [st_lit 2, pk_mul, nI_add, st_lit 256, pk_mul, nI_add, nI_clamp (by omega)]
  refine ⟨vp_in_nI (by omega) (by omega), ?_⟩
  have h1 := hC.2.2.2.2 k hk st hst
  rcases Nat.lt_or_ge w 1 with e | e
  · obtain rfl : w = 0 := by omega
    rw [if_pos rfl] at h
    rw [show (2 * k + 0) * 256 + st = 512 * k + st by omega, h1.1]
    exact h
  · obtain rfl : w = 1 := by omega
    rw [if_neg (by decide)] at h
    rw [show (2 * k + 1) * 256 + st = 512 * k + 256 + st by omega, h1.2]
    exact h
end Sn
