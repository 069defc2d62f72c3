/-! A new law: what its deals come to. -/
theorem cl_rS_set {L : Nat} (h : cl_L L) (j : Nat) : gc_rS L j = 0 ∨ (12 ≤ gc_rS L j ∧ gc_rS L j ≤ 23) ∨ (55 ≤ gc_rS L j ∧ gc_rS L j ≤ 66) := by
  rcases Nat.lt_or_ge j 19 with e | e
  · have h1 : ∀ j, j < 19 → (gc_rS 11 j = 0 ∨ (12 ≤ gc_rS 11 j ∧ gc_rS 11 j ≤ 23) ∨ (55 ≤ gc_rS 11 j ∧ gc_rS 11 j ≤ 66)) ∧ (gc_rS 54 j = 0 ∨ (12 ≤ gc_rS 54 j ∧ gc_rS 54 j ≤ 23) ∨ (55 ≤ gc_rS 54 j ∧ gc_rS 54 j ≤ 66)) := by decide
    rcases h with rfl | rfl
    · exact (h1 j e).1
    · exact (h1 j e).2
  · refine Or.inl ?_
    unfold gc_rS
    rw [List.getD_eq_getElem?_getD, List.getElem?_eq_none]
    · rfl
    · rcases h with rfl | rfl
      · exact e
      · exact e
theorem wR_wI (s : gc_St) (a i : Nat) (f : Nat → Int32) (x : Int32) : gc_wI (gc_wR s a f) a i x = gc_wR s a (upd f i x) := by
  refine gc_ext rfl ?_ rfl
  funext q j
  rw [rw_I_wI, rw_I_wR, rw_I_wR]
  by_cases e : q = a
  · rw [if_pos e, if_pos e, if_pos e]
    unfold upd
    rfl
  · rw [if_neg e, if_neg e, if_neg e]
theorem wR_id (s : gc_St) (a : Nat) : gc_wR s a (gc_I s a) = s := by
  refine gc_ext rfl ?_ rfl
  funext q j
  rw [rw_I_wR]
  by_cases e : q = a
  · rw [if_pos e, e]
  · rw [if_neg e]
theorem I_wR (s : gc_St) (a : Nat) (f : Nat → Int32) : gc_I (gc_wR s a f) a = f := by
  funext j
  rw [rw_I_wR, if_pos rfl]
theorem I_wRn (s : gc_St) {a q : Nat} (f : Nat → Int32) (h : q ≠ a) : gc_I (gc_wR s a f) q = gc_I s q := by
  funext j
  rw [rw_I_wR, if_neg h]
theorem st_ch_dp {a t g : Nat} : st_ch a t g = (match dp_ch a t g with
  | none => -1
  | some x => nI x) := by
  unfold st_ch dp_ch st_plus
  by_cases h1 : st_in t a = true
  · by_cases h2 : st_fit (a - t) g = true
    · rw [if_pos h1, if_pos h2, if_pos ⟨h1, h2⟩]
    · rw [if_pos h1, if_neg h2, if_neg (fun z => h2 z.2)]
  · rw [if_neg h1, if_neg (fun z => h1 z.1)]
def tgf (W : ld_W) (k j : Nat) (f : Nat → Int32) (i : Nat) : Int32 := if i / 512 = k ∧ i % 256 < j then (if i % 512 < 256 then ld_t0 W k (i % 256) else ld_t1 W k (i % 256)) else f i
theorem tgf_0 {W : ld_W} {k : Nat} {f : Nat → Int32} : tgf W k 0 f = f := by
  funext i
  unfold tgf
  rw [if_neg (by omega)]
theorem tgf_S {W : ld_W} {k j : Nat} {f : Nat → Int32} {x y : Int32} (hj : j < 256) (hx : x = ld_t0 W k j) (hy : y = ld_t1 W k j) : upd (upd (tgf W k j f) (512 * k + j) x) (512 * k + 256 + j) y = tgf W k (j + 1) f := by
  funext i
  unfold upd tgf
  by_cases e1 : i = 512 * k + 256 + j
  · rw [if_pos e1, if_pos (by omega), if_neg (by omega), hy, show i % 256 = j by omega]
  · rw [if_neg e1]
    by_cases e2 : i = 512 * k + j
    · rw [if_pos e2, if_pos (by omega), if_pos (by omega), hx, show i % 256 = j by omega]
    · rw [if_neg e2]
      by_cases e3 : i / 512 = k ∧ i % 256 < j
      · rw [if_pos e3, if_pos (show i / 512 = k ∧ i % 256 < j + 1 by omega)]
      · rw [if_neg e3, if_neg (by omega)]
section Ad
variable {P : gc_Pr} {d : Nat} {s : gc_St} {Q : gc_TQ} {W : ld_W} {L : Nat}
theorem cl_law_27 (hL : cl_L L) (h : cl_law W L s) (g : Nat → Int32) : cl_law W L (gc_wR s 27 g) :=
  cl_law_of (s := s) rfl (fun j => I_wRn s g (by have := cl_rS_set hL j; omega)) h
theorem sp_fillTargets (hP : gc_Cl P) (hm : gc_Mo P) (hd : 3 ≤ d) (hL : cl_L L) (hlw : gc_lw s = L) (hl : cl_law W L s) (hok : ld_ok W) {k : Nat} (hk : ld_dl W k) {f : Nat → Int32} (h : Q none (gc_wR s 27 (tgf W k (ld_N W) f))) :
    gc_T P d 0 0 2 0 [.ref 10, .int (nI k), gc_u, gc_u, gc_u, gc_u, gc_u, gc_u] [] (gc_wR s 27 f) Q := by
  have hN := ld_N_le hok
  have h6 := ld_dl_lt hok hk
  have hw : ∀ g, gc_lw (gc_wR s 27 g) = L := fun _ => hlw
  have hot : ∀ g, gc_I (gc_wR s 27 g) (gc_rS L 10) k = ld_oI (ld_ot W k) := fun g => cl_ot (cl_law_27 hL hl g) hk
  have htk : ∀ g, gc_I (gc_wR s 27 g) (gc_rS L 8) k = nI (ld_tk W k) := fun g => cl_tk (cl_law_27 hL hl g) hk
  have hgv : ∀ g, gc_I (gc_wR s 27 g) (gc_rS L 9) k = nI (ld_gv W k) := fun g => cl_gv (cl_law_27 hL hl g) hk
  obtain ⟨b1, b2, b3⟩ := hok.2.1 k hk
  have loop : ∀ two : Int32, (two = 0 ↔ ld_ot W k = 0) → ∀ m j, j + m = ld_N W → ∀ l4 l5 l6 l7 : Value, gc_T P d 0 0 2 21 [.ref 10, .int (nI k), .int two, .int (nI j), l4, l5, l6, l7] [] (gc_wR s 27 (tgf W k j f)) Q := by
    intro two htwo m
    induction m with
    | zero =>
      intro j hj l4 l5 l6 l7
      refine b_X0_fillTargets_21 hP hm ⟨by rw [hw]; exact cl_io hL, by omega, ?_⟩
      rw [hw]
      refine sp_stockCount hP hm hL (cl_law_27 hL hl _) hok ?_
      refine pk_le (ld_N W) j (fun _ => ?_) (fun z => by omega)
      rw [show j = ld_N W by omega]
      exact h
    | succ m ih =>
      intro j hj l4 l5 l6 l7
      have hn := ih (j + 1) (by omega)
      have h109 : ∀ (t0 f1 f2 : Int32) (l6 l7 : Value), (t0 = 0 → ld_t0 W k j = -1 ∧ ld_t1 W k j = -1) → (¬ t0 = 0 → ld_t0 W k j = f1 ∧ ld_t1 W k j = f2) → gc_T P d 0 0 2 109 [.ref 10, .int (nI k), .int two, .int (nI j), .int f1, .int f2, l6, l7] [.int t0] (gc_wR s 27 (tgf W k j f)) Q := by
        intro t0 f1 f2 l6 l7 g1 g2
        have wr : ∀ x y : Int32, x = ld_t0 W k j → y = ld_t1 W k j → gc_wI (gc_wI (gc_wR s 27 (tgf W k j f)) 27 (512 * k + j) x) 27 (512 * k + 256 + j) y = gc_wR s 27 (tgf W k (j + 1) f) := by
          intro x y hx hy
          rw [wR_wI, wR_wI, tgf_S (by omega) hx hy]
        refine b_X0_fillTargets_109 hP hm ?_
        rw [st_lit 2, pk_mul, st_lit 256, pk_mul, nI_add, show 2 * k * 256 + j = 512 * k + j by omega]
        refine ⟨fun z => ?_, fun z => ?_⟩
        · refine b_X0_fillTargets_139 hP hm ⟨vp_in_nI (by omega) (by omega), fun _ => ?_, fun y => absurd z y⟩
          rw [nI_clamp (by omega), st_lit 256, nI_add, show 512 * k + j + 256 = 512 * k + 256 + j by omega]
          refine b_X0_fillTargets_161 hP hm ⟨vp_in_nI (by omega) (by omega), ?_⟩
          rw [nI_clamp (by omega), wr _ _ (g1 z).1.symm (g1 z).2.symm, nI_1]
          exact hn _ _ _ _
        · refine b_X0_fillTargets_139 hP hm ⟨vp_in_nI (by omega) (by omega), fun y => absurd y z, fun _ => ?_⟩
          rw [nI_clamp (by omega), st_lit 256, nI_add, show 512 * k + j + 256 = 512 * k + 256 + j by omega]
          refine b_X0_fillTargets_161 hP hm ⟨vp_in_nI (by omega) (by omega), ?_⟩
          rw [nI_clamp (by omega), wr _ _ (g2 z).1.symm (g2 z).2.symm, nI_1]
          exact hn _ _ _ _
      have h1 : ∀ (f1 f2 : Int32) (l6 l7 : Value), ld_t0 W k j = f1 → ld_t1 W k j = f2 → gc_T P d 0 0 2 104 [.ref 10, .int (nI k), .int two, .int (nI j), .int f1, .int f2, l6, l7] [] (gc_wR s 27 (tgf W k j f)) Q :=
        fun f1 f2 l6 l7 e1 e2 => b_X0_fillTargets_104 hP hm (h109 1 f1 f2 l6 l7 (fun z => absurd z (by decide)) (fun _ => ⟨e1, e2⟩))
      have h0 : ∀ (f1 f2 : Int32) (l6 l7 : Value), ld_t0 W k j = -1 → ld_t1 W k j = -1 → gc_T P d 0 0 2 108 [.ref 10, .int (nI k), .int two, .int (nI j), .int f1, .int f2, l6, l7] [] (gc_wR s 27 (tgf W k j f)) Q :=
        fun f1 f2 l6 l7 e1 e2 => b_X0_fillTargets_108 hP hm (h109 0 f1 f2 l6 l7 (fun _ => ⟨e1, e2⟩) (fun z => absurd rfl z))
      refine b_X0_fillTargets_21 hP hm ⟨by rw [hw]; exact cl_io hL, by omega, ?_⟩
      rw [hw]
      refine sp_stockCount hP hm hL (cl_law_27 hL hl _) hok ?_
      refine pk_le (ld_N W) j (fun z => by omega) (fun z => ⟨by rw [hw]; exact cl_io hL, vp_in_nI (by omega) (by omega), vp_in_nI (by omega) (by omega), by omega, ?_⟩)
      rw [hw, nI_clamp (by omega), htk, hgv]
      refine sp_exchange hP hm (by omega) (by omega) (by omega) (by omega) ?_
      rw [st_ch_dp]
      cases hX : dp_ch j (ld_tk W k) (ld_gv W k) with
      | none =>
        have e0 : ld_do W k j = none := by
          unfold ld_do
          rw [hX]
        have t0 : ld_t0 W k j = -1 := by
          unfold ld_t0
          rw [e0]
        have t1 : ld_t1 W k j = -1 := by
          unfold ld_t1
          rw [e0]
        refine ⟨fun z2 => b_X0_fillTargets_86 hP hm ⟨fun _ => h0 _ _ _ _ t0 t1, fun y => absurd rfl y⟩, fun z2 => ⟨by rw [hw]; exact cl_io hL, vp_in_nI (by omega) (by omega), vp_in_nI (by omega) (by omega), by omega, ?_⟩⟩
        cases hx : ld_ot W k with
        | zero => exact absurd (htwo.mpr hx) z2
        | succ x =>
          rw [hw, htk, hot, hx]
          refine sp_exchange hP hm (by omega) (by omega) (by omega) (by omega) ?_
          exact b_X0_fillTargets_86 hP hm ⟨fun _ => h0 _ _ _ _ t0 t1, fun y => absurd rfl y⟩
      | some t =>
        have ht := dp_ch_N hok (by omega) b2 hX
        refine ⟨fun z2 => ?_, fun z2 => ⟨by rw [hw]; exact cl_io hL, vp_in_nI (by omega) (by omega), vp_in_nI (by omega) (by omega), by omega, ?_⟩⟩
        · have hx := htwo.mp z2
          have e0 : ld_do W k j = some (t, none) := by
            unfold ld_do
            rw [hX, hx]
          have t0 : ld_t0 W k j = nI t := by
            unfold ld_t0
            rw [e0]
          have t1 : ld_t1 W k j = -1 := by
            unfold ld_t1
            rw [e0]
          exact b_X0_fillTargets_86 hP hm ⟨fun y => absurd y (m1_ne (by omega)), fun _ => ⟨fun y => absurd rfl y, fun _ => ⟨fun y => absurd z2 y, fun _ => h1 _ _ _ _ t0 t1⟩⟩⟩
        · cases hx : ld_ot W k with
          | zero => exact absurd (htwo.mpr hx) z2
          | succ x =>
            rw [hw, htk, hot, hx]
            refine sp_exchange hP hm (by omega) (by omega) (by omega) (by omega) ?_
            rw [st_ch_dp]
            cases hX2 : dp_ch j (ld_tk W k) x with
            | none =>
              have e0 : ld_do W k j = none := by
                unfold ld_do
                simp only [hX, hx, hX2, Option.map_none]
              have t0 : ld_t0 W k j = -1 := by
                unfold ld_t0
                rw [e0]
              have t1 : ld_t1 W k j = -1 := by
                unfold ld_t1
                rw [e0]
              exact b_X0_fillTargets_86 hP hm ⟨fun y => absurd y (m1_ne (by omega)), fun _ => ⟨fun y => absurd rfl y, fun _ => ⟨fun _ => h0 _ _ _ _ t0 t1, fun y => absurd y z2⟩⟩⟩
            | some t2 =>
              have ht2 := dp_ch_N hok (by omega) (show x < ld_N W by omega) hX2
              have e0 : ld_do W k j = some (t, some t2) := by
                unfold ld_do
                simp only [hX, hx, hX2, Option.map_some]
              have t0 : ld_t0 W k j = nI t := by
                unfold ld_t0
                rw [e0]
              have t1 : ld_t1 W k j = nI t2 := by
                unfold ld_t1
                rw [e0]
              exact b_X0_fillTargets_86 hP hm ⟨fun y => absurd y (m1_ne (by omega)), fun _ => ⟨fun _ => h1 _ _ _ _ t0 t1, fun y => absurd y (m1_ne (by omega))⟩⟩
  refine b_X0_fillTargets_0 hP hm ⟨by rw [hw]; exact cl_io hL, vp_in_nI (by omega) (by omega), ?_⟩
  rw [hw, nI_clamp (by omega), hot]
  refine ⟨fun z => b_X0_fillTargets_18 hP hm ?_, fun z => b_X0_fillTargets_18 hP hm ?_⟩
  · have := loop 0 ?_ (ld_N W) 0 (by omega) gc_u gc_u gc_u gc_u
    · rw [tgf_0] at this
      exact this
    · refine ⟨fun _ => ?_, fun _ => rfl⟩
      cases hx : ld_ot W k with
      | zero => rfl
      | succ x =>
        rw [hx] at z
        exact absurd z (m1_ne (by omega))
  · have := loop 1 ?_ (ld_N W) 0 (by omega) gc_u gc_u gc_u gc_u
    · rw [tgf_0] at this
      exact this
    · refine ⟨fun y => absurd y (by decide), fun y => ?_⟩
      rw [y] at z
      exact absurd rfl z
theorem sp_adopt (hP : gc_Cl P) (hm : gc_Mo P) (hd : 4 ≤ d) (hL : cl_L L) (hl : cl_law W L s) (hok : ld_ok W)
    (h : ∀ g, cl_tg W (gc_wR (gc_wF (gc_wlw s L) 10 1 (gc_F s 10 1 + 1)) 27 g) → Q none (gc_wR (gc_wF (gc_wlw s L) 10 1 (gc_F s 10 1 + 1)) 27 g)) :
    gc_T P d 0 0 1 0 [.ref 10, .ref L, gc_u] [] s Q := by
  refine b_X0_adopt_0 hP hm (cl_io hL) ?_
  generalize hs1 : gc_wF (gc_wlw s L) 10 1 (gc_F s 10 1 + 1) = s1 at h ⊢
  have hlw : gc_lw s1 = L := by rw [← hs1]; rfl
  have hl1 : cl_law W L s1 := by
    refine cl_law_of (s := s) ?_ (fun j => by rw [← hs1]; rfl) hl
    rw [← hs1]
    funext k
    rw [rw_F_wF, if_neg (by rcases hL with rfl | rfl <;> decide)]
    rfl
  have hw : ∀ g, gc_lw (gc_wR s1 27 g) = L := fun _ => hlw
  have hF1 : ∀ g, gc_F (gc_wR s1 27 g) L 1 = nI (ld_o W) := fun _ => hl1.1.2.1
  have hF2 : ∀ g, gc_F (gc_wR s1 27 g) L 2 = nI (ld_b W) := fun _ => hl1.1.2.2.1
  have o3 := hok.1.2.1
  have b3 := hok.1.2.2.1
  have hN := ld_N_le hok
  have keep : ∀ (g : Nat → Int32) (k k' st : Nat), k' ≠ k → st < ld_N W → tgf W k (ld_N W) g (512 * k' + st) = g (512 * k' + st) ∧ tgf W k (ld_N W) g (512 * k' + 256 + st) = g (512 * k' + 256 + st) := by
    intro g k k' st h1 h2
    unfold tgf
    rw [if_neg (by omega), if_neg (by omega)]
    exact ⟨rfl, rfl⟩
  have get : ∀ (g : Nat → Int32) (k st : Nat), st < ld_N W → tgf W k (ld_N W) g (512 * k + st) = ld_t0 W k st ∧ tgf W k (ld_N W) g (512 * k + 256 + st) = ld_t1 W k st := by
    intro g k st h2
    unfold tgf
    rw [if_pos (by omega), if_pos (by omega), if_pos (by omega), if_neg (by omega), show (512 * k + st) % 256 = st by omega, show (512 * k + 256 + st) % 256 = st by omega]
    exact ⟨rfl, rfl⟩
  have l2 : ∀ m k, k + m = ld_b W → ∀ g, (∀ k', ld_dl W k' → (k' < 3 ∨ k' < 3 + k) → ∀ st, st < ld_N W → g (512 * k' + st) = ld_t0 W k' st ∧ g (512 * k' + 256 + st) = ld_t1 W k' st) → gc_T P d 0 0 1 41 [.ref 10, .ref L, .int (nI k)] [] (gc_wR s1 27 g) Q := by
    intro m
    induction m with
    | zero =>
      intro k hk g hg
      refine b_X0_adopt_41 hP hm (cl_io hL) ⟨by rw [hw]; exact cl_io hL, ?_⟩
      rw [hw, hF2]
      refine pk_le (ld_b W) k (fun _ => h g fun k' hk' st hst => ?_) (fun z => by omega)
      rw [I_wR]
      exact hg k' hk' (by unfold ld_dl at hk'; omega) st hst
    | succ m ih =>
      intro k hk g hg
      refine b_X0_adopt_41 hP hm (cl_io hL) ⟨by rw [hw]; exact cl_io hL, ?_⟩
      rw [hw, hF2]
      refine pk_le (ld_b W) k (fun z => by omega) (fun z => ⟨by omega, ?_⟩)
      rw [st_lit 3, nI_add]
      refine sp_fillTargets hP hm (by omega) hL hlw hl1 hok (Or.inr ⟨by omega, by omega⟩) ?_
      show gc_T P d 0 0 1 41 [.ref 10, .ref L, .int (nI k + 1)] [] _ Q
      rw [nI_1]
      refine ih (k + 1) (by omega) _ fun k' hk' hlt st hst => ?_
      by_cases e : k' = 3 + k
      · rw [e]
        exact get g _ st hst
      · rw [(keep g (3 + k) k' st e hst).1, (keep g (3 + k) k' st e hst).2]
        exact hg k' hk' (by omega) st hst
  have l1 : ∀ m k, k + m = ld_o W → ∀ g, (∀ k', k' < k → ∀ st, st < ld_N W → g (512 * k' + st) = ld_t0 W k' st ∧ g (512 * k' + 256 + st) = ld_t1 W k' st) → gc_T P d 0 0 1 17 [.ref 10, .ref L, .int (nI k)] [] (gc_wR s1 27 g) Q := by
    intro m
    induction m with
    | zero =>
      intro k hk g hg
      refine b_X0_adopt_17 hP hm (cl_io hL) ⟨by rw [hw]; exact cl_io hL, ?_⟩
      rw [hw, hF1]
      refine pk_le (ld_o W) k (fun _ => ?_) (fun z => by omega)
      refine l2 (ld_b W) 0 (by omega) g fun k' hk' hlt st hst => hg k' ?_ st hst
      unfold ld_dl at hk'
      omega
    | succ m ih =>
      intro k hk g hg
      refine b_X0_adopt_17 hP hm (cl_io hL) ⟨by rw [hw]; exact cl_io hL, ?_⟩
      rw [hw, hF1]
      refine pk_le (ld_o W) k (fun z => by omega) (fun z => ⟨by omega, ?_⟩)
      refine sp_fillTargets hP hm (by omega) hL hlw hl1 hok (Or.inl (by omega)) ?_
      show gc_T P d 0 0 1 17 [.ref 10, .ref L, .int (nI k + 1)] [] _ Q
      rw [nI_1]
      refine ih (k + 1) (by omega) _ fun k' hlt st hst => ?_
      by_cases e : k' = k
      · rw [e]
        exact get g _ st hst
      · rw [(keep g k k' st e hst).1, (keep g k k' st e hst).2]
        exact hg k' (by omega) st hst
  have := l1 (ld_o W) 0 (by omega) (gc_I s1 27) (fun k' z => absurd z (Nat.not_lt_zero _))
  rw [wR_id] at this
  exact this
end Ad
