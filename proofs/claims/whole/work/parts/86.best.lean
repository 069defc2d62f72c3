/-! The class: the best for the CLAIMS from one on. -/
def cnd (W : ld_W) (o c all s : Nat) (Pr : Nat → Nat → Prop) (v : Nat × Nat) : Prop := TV W o (ld_c W - (c + 1)) (c + 1) s all v ∨ ∃ x d v', Pr d x ∧ st_in x s = true ∧ x < 256 ∧ sb_in d all = true ∧ d < 8 ∧ dp_D W o (ld_ro W c) x d ≠ 0 ∧ TV W o (ld_c W - (c + 1)) (c + 1) (s - x) (all - d) v' ∧ v = up2 (ld_wo W c) (2 ^ c) v'
def ix (c b s : Nat) : Nat := 2048 * c + 256 * b + s
/-- the table from the c-th CLAIM on -/
def tbl (W : ld_W) (o bh sh c : Nat) (f : Nat → Int32) : Prop := ∀ b, b < 8 → sb_in b bh = true → ∀ s, s ≤ sh → ∃ r, RV (TV W o (ld_c W - c) c s b) r ∧ f (ix c b s) = cv r
section Tg
variable {P : gc_Pr} {d : Nat} {s : gc_St} {Q : gc_TQ} {W : ld_W} {L v o : Nat} {h : Nat × Nat × Nat}
/-- what settle works on: the law, its rows, what was at hand, the row of the best -/
def tq (W : ld_W) (L v : Nat) (h : Nat × Nat × Nat) (s : gc_St) : Prop := mvS W L v s ∧ v < 2 ^ 31 ∧ (gc_F s 45 0 = nI h.1 ∧ gc_F s 45 1 = nI h.2.1 ∧ gc_F s 45 2 = nI h.2.2) ∧ (h.1 < ld_N W ∧ h.2.1 < 2 ^ ld_o W ∧ h.2.2 < 2 ^ ld_b W) ∧ 116 ≤ gc_be s ∧ gc_gk s (gc_be s) = (0, 14336)
theorem tq_b (hq : tq W L v h s) : h.2.1 < 8 ∧ h.2.2 < 8 ∧ ld_ok W := ⟨p8 hq.1.1.2.2.2.1.1.2.1 hq.2.2.2.1.2.1, p8 hq.1.1.2.2.2.1.1.2.2.1 hq.2.2.2.1.2.2, hq.1.1.2.2.2.1⟩
theorem tq_w (hq : tq W L v h s) (f : Nat → Int32) : tq W L v h (gc_wR s (gc_be s) f) := by
  obtain ⟨⟨h1, h2⟩, h3, h4, h5, h6, h7⟩ := hq
  obtain ⟨r1, r2, r3, r4⟩ := h2
  have hok := h1.2.2.2.1
  refine ⟨⟨cl_C_of h1 rfl rfl (fun a h8 _ => I_wRn s f (by omega)), r1, fun i hi => ?_, r3, fun o p b ho hp hb hv => ?_⟩, h3, h4, h5, h6, h7⟩
  · rw [I_wRn s f (by omega)]
    exact r2 i hi
  · rw [I_wRn s f (show (24 : Nat) ≠ gc_be s by omega)] at hv ⊢
    obtain ⟨⟨a', y1, y2⟩, y3⟩ := r4 o p b ho hp hb hv
    refine ⟨⟨a', y1, fun st hst => ?_⟩, y3⟩
    have hlt := cl_num_lt ho (show p < 24 by have := hok.1.2.2.2.2; omega) hb
    rw [I_wRn s f (r3.2.1 _ _ hlt y1).2.2.2]
    exact y2 st hst
theorem sp_at (hP : gc_Cl P) (hm : gc_Mo P) {c b : Nat} (hQ : Q (some (.int (nI (ix c b 0)))) s) : gc_T P d 0 0 66 0 [.int (nI c), .int (nI b)] [] s Q := by
  refine b_X5_at_0 hP hm ?_
  rw [st_lit 2048, pk_mul, st_lit 256, pk_mul, nI_add]
  unfold ix at hQ
  rw [show c * 2048 + b * 256 = 2048 * c + 256 * b + 0 by omega]
  exact hQ
theorem sp_fill2 (hP : gc_Cl P) (hm : gc_Mo P) (hd : 1 ≤ d) {a n i j : Nat} {x : Int32} {f : Nat → Int32} (hg : gc_gk s a = (0, n)) (hij : i ≤ j) (hjn : j ≤ n) (hn : n < 2 ^ 31) (hQ : Q none (gc_wR s a (fun k => if i ≤ k ∧ k < j then x else f k))) : gc_T P d 0 0 296 0 [.ref a, .int (nI i), .int (nI j), .int x, gc_u] [] (gc_wR s a f) Q := by
  have hgk : ∀ f, gc_gk (gc_wR s a f) a = (0, n) := fun _ => hg
  refine b_J7_fill_fda19_0 hP hm ⟨by rw [hgk]; rfl, hd, ?_⟩
  rw [hgk]
  refine b_J7_rangeCheck_23922_0 hP hm (pk_le i j (fun _ => ⟨fun _ => pk_le j n (fun _ => ?_) (fun z => by omega), fun y => absurd (nI_pos' (by omega)) y⟩) (fun z => by omega))
  have key : ∀ m k, k + m = j → i ≤ k → gc_T P d 0 0 296 10 [.ref a, .int (nI i), .int (nI j), .int x, .int (nI k)] [] (gc_wR s a (fun q => if i ≤ q ∧ q < k then x else f q)) Q := by
    intro m
    induction m with
    | zero =>
      intro k hk hik
      obtain rfl : k = j := by omega
      exact b_J7_fill_fda19_10 hP hm (pk_le k k (fun _ => hQ) (fun z => by omega))
    | succ m ih =>
      intro k hk hik
      refine b_J7_fill_fda19_10 hP hm (pk_le j k (fun z => by omega) (fun _ => ⟨by rw [hgk], by rw [hgk]; exact vp_in_nI (by omega) (by omega), ?_⟩))
      have := ih (k + 1) (by omega) (by omega)
      rw [nI_clamp (by omega), wR_wI, nI_1]
      rw [show upd (fun q => if i ≤ q ∧ q < k then x else f q) k x = (fun q => if i ≤ q ∧ q < k + 1 then x else f q) from ?_]
      · exact this
      · funext q
        unfold upd
        by_cases e : q = k
        · rw [if_pos e, if_pos (by omega)]
        · rw [if_neg e]
          show (if i ≤ q ∧ q < k then x else f q) = _
          by_cases e2 : i ≤ q ∧ q < k
          · rw [if_pos e2, if_pos (by omega)]
          · rw [if_neg e2, if_neg (by omega)]
  have := key (j - i) i (by omega) (Nat.le_refl _)
  rw [show (fun q => if i ≤ q ∧ q < i then x else f q) = f from by funext q; rw [if_neg (by omega)]] at this
  exact this
theorem sp_noClaims (hP : gc_Cl P) (hm : gc_Mo P) (hd : 2 ≤ d) (hq : tq W L v h s) {f : Nat → Int32} (hQ : ∀ f', tbl W h.2.1 h.2.2 h.1 (ld_c W) f' → Q none (gc_wR s (gc_be s) f')) : gc_T P d 0 0 68 0 [.ref 44, .int (nI (ld_c W)), gc_u, gc_u] [] (gc_wR s (gc_be s) f) Q := by
  obtain ⟨b1, b2, hok⟩ := tq_b hq
  have hc6 := hok.1.2.2.2.1
  have hN := ld_N_le hok
  have hg := hq.2.2.2.2.2
  have hgk : ∀ f, gc_gk (gc_wR s (gc_be s) f) (gc_be s) = (0, 14336) := fun _ => hg
  refine b_X5_fillWithoutClaims_0 hP hm ?_
  have key : ∀ m b, b + m = 8 → ∀ (f : Nat → Int32) (l3 : Value), (∀ b', b' < b → ∀ st, st < 256 → f (ix (ld_c W) b' st) = cv (if st = 0 then some (0, 0) else none)) → gc_T P d 0 0 68 2 [.ref 44, .int (nI (ld_c W)), .int (nI b), l3] [] (gc_wR s (gc_be s) f) Q := by
    intro m
    induction m with
    | zero =>
      intro b hb f l3 hf
      refine b_X5_fillWithoutClaims_2 hP hm (pk_le 8 b (fun _ => hQ f fun b' hb' _ st hst => ?_) (fun z => by omega))
      refine ⟨_, ?_, hf b' (by omega) st (by have := hq.2.2.2.1.1; omega)⟩
      rw [Nat.sub_self]
      by_cases e : st = 0
      · rw [if_pos e]
        refine Or.inr ⟨(0, 0), rfl, ⟨e, rfl⟩, fun v' hv' => ?_⟩
        rw [hv'.2]
        exact ge2_refl _
      · rw [if_neg e]
        exact Or.inl ⟨rfl, fun v' hv' => e hv'.1⟩
    | succ m ih =>
      intro b hb f l3 hf
      refine b_X5_fillWithoutClaims_2 hP hm (pk_le 8 b (fun z => by omega) (fun _ => ⟨by omega, sp_at hP hm ⟨by omega, ?_⟩⟩))
      rw [st_lit 256, nI_add]
      have hix : ix (ld_c W) b 0 + 256 ≤ 14336 := by
        unfold ix
        omega
      show gc_T P (d - 1) 0 0 296 0 [.ref (gc_be s), .int (nI (ix (ld_c W) b 0)), .int (nI (ix (ld_c W) b 0 + 256)), _, gc_u] [] _ _
      refine sp_fill2 hP hm (by omega) hg (by omega) hix (by decide) ⟨congrArg Prod.fst hg, ?_⟩
      show vp_in (nI (ix (ld_c W) b 0)) (gc_gk _ (gc_be s)).2 ∧ gc_T P d 0 0 68 2 [.ref 44, .int (nI (ld_c W)), .int (nI b + 1), .int (nI (ix (ld_c W) b 0))] [] (gc_wI (gc_wR s (gc_be s) _) (gc_be s) (nI (ix (ld_c W) b 0)).toNatClampNeg 0) Q
      rw [hgk, nI_clamp (by omega), wR_wI, nI_1]
      refine ⟨vp_in_nI (by omega) (by decide), ih (b + 1) (by omega) _ _ fun b' hb' st hst => ?_⟩
      show (if ix (ld_c W) b' st = ix (ld_c W) b 0 then (0 : Int32) else if ix (ld_c W) b 0 ≤ ix (ld_c W) b' st ∧ ix (ld_c W) b' st < ix (ld_c W) b 0 + 256 then -1000000 else f (ix (ld_c W) b' st)) = _
      by_cases e : b' = b
      · rw [e]
        by_cases e2 : st = 0
        · rw [e2, if_pos rfl]
          rfl
        · rw [if_neg (by unfold ix; omega), if_pos (by unfold ix; omega), if_neg e2]
          rfl
      · rw [if_neg (by unfold ix; omega), if_neg (by unfold ix; omega)]
        exact hf b' (by omega) st hst
  exact key 8 0 (by omega) f _ (fun b' hb' => absurd hb' (Nat.not_lt_zero _))
theorem sp_valueOf (hP : gc_Cl P) (hm : gc_Mo P) (hC : cl_C W L s) {c : Nat} (hc : c < ld_c W) (hQ : Q (some (.int (nI (64 * ld_wo W c) - nI (2 ^ c)))) s) : gc_T P d 0 0 67 0 [.ref 44, .int (nI c)] [] s Q := by
  have hc6 := hC.2.2.2.1.1.2.2.2.1
  refine b_X5_valueOf_0 hP hm ?_
  rw [hC.2.1, nI_clamp (by omega), cl_wo hC.2.2.1 hc, st_lit 64, pk_mul, show (1 : Int32) = nI 1 from rfl, st_shl (by omega) (Nat.lt_of_le_of_lt (Nat.mul_le_mul (Nat.le_refl 1) (Nat.pow_le_pow_right (by decide) (show c ≤ 5 by omega))) (by decide)), Nat.one_mul]
  exact ⟨cl_io hC.1, vp_in_nI (by omega) (by decide), hQ⟩
theorem cnd_add {c all sx x dd : Nat} {Pr : Nat → Nat → Prop} {v : Nat × Nat} (hx : x < 256) (hd : dd < 8) (hin : sb_in dd all = true) : cnd W o c all sx (fun d' x' => Pr d' x' ∨ (d' = dd ∧ x' = x)) v ↔ cnd W o c all sx Pr v ∨ (st_in x sx = true ∧ dp_D W o (ld_ro W c) x dd ≠ 0 ∧ ∃ v', TV W o (ld_c W - (c + 1)) (c + 1) (sx - x) (all - dd) v' ∧ v = up2 (ld_wo W c) (2 ^ c) v') := by
  constructor
  · rintro (h1 | ⟨x', d', v', h1 | ⟨e1, e2⟩, h2, h3, h4, h5, h6, h7, h8⟩)
    · exact Or.inl (Or.inl h1)
    · exact Or.inl (Or.inr ⟨x', d', v', h1, h2, h3, h4, h5, h6, h7, h8⟩)
    · rw [e1] at h6 h7
      rw [e2] at h2 h6 h7
      exact Or.inr ⟨h2, h6, v', h7, h8⟩
  · rintro ((h1 | ⟨x', d', v', h1, h2⟩) | ⟨h1, h2, v', h3, h4⟩)
    · exact Or.inl h1
    · exact Or.inr ⟨x', d', v', Or.inl h1, h2⟩
    · exact Or.inr ⟨x, dd, v', Or.inr ⟨rfl, rfl⟩, h1, hx, hin, hd, h2, h3, h4⟩
theorem cnd_pr {c all sx : Nat} {Pr Pr' : Nat → Nat → Prop} {v : Nat × Nat} (e : ∀ d x, d < 8 → x < 256 → sb_in d all = true → st_in x sx = true → (Pr d x ↔ Pr' d x)) : cnd W o c all sx Pr v ↔ cnd W o c all sx Pr' v := by
  constructor
  · rintro (h1 | ⟨x', d', v', h1, h2, h3, h4, h5, h6⟩)
    · exact Or.inl h1
    · exact Or.inr ⟨x', d', v', (e d' x' h5 h3 h4 h2).mp h1, h2, h3, h4, h5, h6⟩
  · rintro (h1 | ⟨x', d', v', h1, h2, h3, h4, h5, h6⟩)
    · exact Or.inl h1
    · exact Or.inr ⟨x', d', v', (e d' x' h5 h3 h4 h2).mpr h1, h2, h3, h4, h5, h6⟩
/-- cells of one row so far -/
def tbc (W : ld_W) (o sh c all : Nat) (Pr : Nat → Nat → Prop) (f : Nat → Int32) (lo hi : Nat) : Prop := ∀ st, lo ≤ st → st < hi → st ≤ sh → ∃ r, RV (cnd W o c all st Pr) r ∧ f (ix c all st) = cv r
theorem cnd_le (hok : ld_ok W) {c all sx : Nat} {Pr : Nat → Nat → Prop} {v : Nat × Nat} (hc : c < ld_c W) (hv : cnd W o c all sx Pr v) : v.1 ≤ 1000 ∧ v.2 < 64 := by
  have hw := (hok.2.2.2.1 c hc).2
  have hc6 := hok.1.2.2.2.1
  rcases hv with hv | ⟨x, dd, v', h1, h2, h3, h4, h5, h6, h7, h8⟩
  · have := TV_le hok (by omega) hv
    omega
  · have h9 := TV_le hok (by omega) h7
    have h10 : TV W o (ld_c W - (c + 1) + 1) c sx all v := Or.inr ⟨x, dd, v', h2, h3, h4, h5, h6, h7, h8⟩
    have := TV_le hok (by omega) h10
    omega
theorem sp_withClaim (hP : gc_Cl P) (hm : gc_Mo P) (hd : 3 ≤ d) (hq : tq W L v h s) {c all dd : Nat} (hc : c < ld_c W) (hall : all < 8) (hab : sb_in all h.2.2 = true) (hdd : dd < 8) (hda : sb_in dd all = true) (hv : gc_I s 24 (cl_num h.2.1 (ld_ro W c) dd) = nI v) {f : Nat → Int32} {Pr : Nat → Nat → Prop} (hT : tbl W h.2.1 h.2.2 h.1 (c + 1) f) (hf : tbc W h.2.1 h.1 c all Pr f 0 256)
    (hQ : ∀ f', (∀ i, (i < ix c all 0 ∨ ix c all 0 + 256 ≤ i) → f' i = f i) → tbc W h.2.1 h.1 c all (fun d' x' => Pr d' x' ∨ d' = dd) f' 0 256 → Q none (gc_wR s (gc_be s) f')) :
    gc_T P d 0 0 70 0 [.ref 44, .int (nI c), .int (nI all), .int (nI dd), gc_u, gc_u, gc_u, gc_u, gc_u, gc_u, gc_u, gc_u] [] (gc_wR s (gc_be s) f) Q := by
  obtain ⟨b1, b2, hok⟩ := tq_b hq
  have hc6 := hok.1.2.2.2.1
  have hN := ld_N_le hok
  have hsN := hq.2.2.2.1.1
  have hr := ld_root hok hc
  have hdle := (sb_le all hall dd hdd hda).1
  have hde := (sb_le all hall dd hdd hda).2
  have hdb : sb_in (all - dd) h.2.2 = true := sb_tr _ b2 all hall hab _ (by omega) hde
  have hgk : ∀ f, gc_gk (gc_wR s (gc_be s) f) (gc_be s) = (0, 14336) := fun _ => hq.2.2.2.2.2
  have hbe : ∀ f, gc_be (gc_wR s (gc_be s) f) = gc_be s := fun _ => rfl
  have hF0 : ∀ f, gc_F (gc_wR s (gc_be s) f) 45 0 = nI h.1 := fun _ => hq.2.2.1.1
  obtain ⟨⟨a', y1, y2⟩, _⟩ := hq.1.2.2.2.2 h.2.1 (ld_ro W c) dd b1 hr.1 hdd hv
  obtain ⟨g1, g2, g3, g4⟩ := hq.1.2.2.2.1.2.1 _ _ (cl_num_lt b1 hr.2 hdd) y1
  have hga : ∀ f, gc_gk (gc_wR s (gc_be s) f) a' = (0, 256) := fun _ => gk_row g1 g2 g3
  have hIa : ∀ f st, st < ld_N W → gc_I (gc_wR s (gc_be s) f) a' st = nI (dp_D W h.2.1 (ld_ro W c) st dd) := fun f st hst => by
    rw [I_wRn s f g4]
    exact y2 st hst
  have hq' := tq_w hq f
  refine b_X5_withClaim_0 hP hm ?_
  rw [hq'.1.1.2.1, hq'.2.2.1.2.1, nI_clamp (by omega), cl_ro hq'.1.1.2.2.1 hc]
  refine ⟨cl_io hq.1.1.1, vp_in_nI (by omega) (by decide), by omega, ?_⟩
  refine sp_rowOf hP hm (by omega) b1 hr.2 hdd (by rw [I_wRn s f (show (24 : Nat) ≠ gc_be s by have := hq.2.2.2.2.1; omega)]; exact hv.trans hq.1.2.1.symm) y1 ⟨by omega, ?_⟩
  refine sp_valueOf hP hm hq'.1.1 hc ⟨by omega, sp_at hP hm ⟨by omega, ?_⟩⟩
  rw [nI_1, pk_sub hdle]
  refine sp_at hP hm ?_
  -- STOCKS for the CLAIM
  have outer : ∀ n x, x + n = h.1 + 1 → ∀ (f' : Nat → Int32) (l9 l10 l11 : Value), (∀ i, (i < ix c all 0 ∨ ix c all 0 + 256 ≤ i) → f' i = f i) → tbc W h.2.1 h.1 c all (fun d' x' => Pr d' x' ∨ (d' = dd ∧ x' < x)) f' 0 256 → gc_T P d 0 0 70 57 [.ref 44, .int (nI c), .int (nI all), .int (nI dd), .ref a', .int (nI (64 * ld_wo W c) - nI (2 ^ c)), .int (nI (ix c all 0)), .int (nI (ix (c + 1) (all - dd) 0)), .int (nI x), l9, l10, l11] [] (gc_wR s (gc_be s) f') Q := by
    intro n
    induction n with
    | zero =>
      intro x hx f' l9 l10 l11 f1 f2
      refine b_X5_withClaim_57 hP hm ?_
      rw [hF0]
      refine pk_lt h.1 x (fun _ => hQ f' f1 fun st h1 h2 h3 => ?_) (fun z => by omega)
      obtain ⟨r, r1, r2⟩ := f2 st h1 h2 h3
      refine ⟨r, RV_congr (fun v' => cnd_pr fun d' x' _ hx' _ hin => ?_) r1, r2⟩
      have := st_in_le (by omega) hx' hin
      constructor
      · rintro (z | ⟨z, _⟩)
        · exact Or.inl z
        · exact Or.inr z
      · rintro (z | z)
        · exact Or.inl z
        · exact Or.inr ⟨z, by omega⟩
    | succ n ih =>
      intro x hx f' l9 l10 l11 f1 f2
      have hxN : x < ld_N W := by omega
      have hDm := dp_D_max (o := h.2.1) hok hr.1 hxN hdd
      have eqS : ∀ st v', cnd W h.2.1 c all st (fun d' x' => Pr d' x' ∨ (d' = dd ∧ x' < x + 1)) v' ↔ cnd W h.2.1 c all st (fun d' x' => Pr d' x' ∨ (d' = dd ∧ x' < x)) v' ∨ (st_in x st = true ∧ dp_D W h.2.1 (ld_ro W c) x dd ≠ 0 ∧ ∃ v2, TV W h.2.1 (ld_c W - (c + 1)) (c + 1) (st - x) (all - dd) v2 ∧ v' = up2 (ld_wo W c) (2 ^ c) v2) := by
        intro st v'
        rw [← cnd_add (show x < 256 by omega) hdd hda]
        refine cnd_pr fun d' x' _ _ _ _ => ?_
        constructor
        · rintro (z | ⟨z1, z2⟩)
          · exact Or.inl (Or.inl z)
          · by_cases e : x' = x
            · exact Or.inr ⟨z1, e⟩
            · exact Or.inl (Or.inr ⟨z1, by omega⟩)
        · rintro ((z | ⟨z1, z2⟩) | ⟨z1, z2⟩)
          · exact Or.inl z
          · exact Or.inr ⟨z1, by omega⟩
          · exact Or.inr ⟨z1, by omega⟩
      refine b_X5_withClaim_57 hP hm ?_
      rw [hF0, hga, nI_clamp (by omega), hIa f' x hxN]
      refine pk_lt h.1 x (fun z => by omega) (fun _ => ⟨rfl, vp_in_nI (by omega) (by decide), pk_le (dp_D W h.2.1 (ld_ro W c) x dd) 0 (fun hD => b_X5_withClaim_85 hP hm ?_) (fun hD => b_X5_withClaim_85 hP hm ?_)⟩)
      · refine b_X5_withClaim_90 hP hm ?_
        rw [hF0]
        refine pk_le 256 0 (fun z => by omega) (fun _ => pk_lt h.1 256 (fun _ => b_X5_withClaim_180 hP hm ?_) (fun z => by omega))
        rw [nI_1]
        refine ih (x + 1) (by omega) f' _ _ _ f1 fun st h1 h2 h3 => ?_
        obtain ⟨r, r1, r2⟩ := f2 st h1 h2 h3
        exact ⟨r, RV_congr (fun v' => ⟨fun z => (eqS st v').mpr (Or.inl z), fun z => ((eqS st v').mp z).elim id (fun z2 => absurd (show dp_D W h.2.1 (ld_ro W c) x dd = 0 by omega) z2.2.1)⟩) r1, r2⟩
      · -- what has it as a part
        have noin : ∀ st, st_in x st = false → ∀ v', cnd W h.2.1 c all st (fun d' x' => Pr d' x' ∨ (d' = dd ∧ x' < x)) v' ↔ cnd W h.2.1 c all st (fun d' x' => Pr d' x' ∨ (d' = dd ∧ x' < x + 1)) v' := by
          intro st hno v'
          refine ⟨fun z => (eqS st v').mpr (Or.inl z), fun z => ((eqS st v').mp z).elim id (fun z2 => ?_)⟩
          rw [hno] at z2
          exact absurd z2.1 (by decide)
        have inner : ∀ n2 j cc, h.1 + 1 ≤ j + n2 → x ≤ j → cc ≤ j → j < 512 → (j < 256 → st_in x j = true) → ∀ (f' : Nat → Int32) (l10 : Value), (∀ i, (i < ix c all 0 ∨ ix c all 0 + 256 ≤ i) → f' i = f i) → tbc W h.2.1 h.1 c all (fun d' x' => Pr d' x' ∨ (d' = dd ∧ x' < x + 1)) f' 0 j → tbc W h.2.1 h.1 c all (fun d' x' => Pr d' x' ∨ (d' = dd ∧ x' < x)) f' j 256 → gc_T P d 0 0 70 90 [.ref 44, .int (nI c), .int (nI all), .int (nI dd), .ref a', .int (nI (64 * ld_wo W c) - nI (2 ^ c)), .int (nI (ix c all 0)), .int (nI (ix (c + 1) (all - dd) 0)), .int (nI x), .int (nI j), .int (nI cc), l10] [] (gc_wR s (gc_be s) f') Q := by
          intro n2
          have done : ∀ j, h.1 < j → ∀ (f' : Nat → Int32) (l9 l0 : Int32) (l10 : Value), (∀ i, (i < ix c all 0 ∨ ix c all 0 + 256 ≤ i) → f' i = f i) → tbc W h.2.1 h.1 c all (fun d' x' => Pr d' x' ∨ (d' = dd ∧ x' < x + 1)) f' 0 j → gc_T P d 0 0 70 180 [.ref 44, .int (nI c), .int (nI all), .int (nI dd), .ref a', .int (nI (64 * ld_wo W c) - nI (2 ^ c)), .int (nI (ix c all 0)), .int (nI (ix (c + 1) (all - dd) 0)), .int (nI x), .int l9, .int l0, l10] [] (gc_wR s (gc_be s) f') Q := by
            intro j hj f' l9 l0 l10 f1 f2
            refine b_X5_withClaim_180 hP hm ?_
            rw [nI_1]
            exact ih (x + 1) (by omega) f' _ _ _ f1 fun st h1 h2 h3 => f2 st h1 (by omega) h3
          induction n2 with
          | zero =>
            intro j cc h1 h2 hcc h3 h4 f' l10 f1 f2 f3
            refine b_X5_withClaim_90 hP hm ?_
            rw [hF0]
            exact pk_le 256 cc (fun z => done j (by omega) f' _ _ _ f1 f2) (fun _ => pk_lt h.1 j (fun z => done j z f' _ _ _ f1 f2) (fun z => by omega))
          | succ n2 ih2 =>
            intro j cc h1 h2 hcc h3 h4 f' l10 f1 f2 f3
            refine b_X5_withClaim_90 hP hm ?_
            rw [hF0]
            refine pk_le 256 cc (fun z => done j (by omega) f' _ _ _ f1 f2) (fun _ => pk_lt h.1 j (fun z => done j z f' _ _ _ f1 f2) (fun hjs => ?_))
            have hin := h4 (by omega)
            obtain ⟨n1, n2', n3, n4⟩ := st_nx_spec (a := j) (f := x) (by omega) (by omega) hin
            obtain ⟨r, r1, r2⟩ := f3 j (Nat.le_refl _) (by omega) hjs
            obtain ⟨q, q1, q2⟩ := hT (all - dd) (by omega) hdb (j - x) (by omega)
            have hi1 : ix (c + 1) (all - dd) 0 + j - x = ix (c + 1) (all - dd) (j - x) := by
              unfold ix
              omega
            have hi2 : ix c all 0 + j = ix c all j := by
              unfold ix
              omega
            have hi1lt : ix (c + 1) (all - dd) (j - x) < 14336 := by
              unfold ix
              omega
            have hi2lt : ix c all j < 14336 := by
              unfold ix
              omega
            have hread : f' (ix (c + 1) (all - dd) (j - x)) = cv q := by
              rw [f1 _ (Or.inr (by unfold ix; omega))]
              exact q2
            rw [nI_add, pk_sub (show x ≤ ix (c + 1) (all - dd) 0 + j by omega), nI_add, hi1, hi2, nI_clamp (by omega), nI_clamp (by omega), hbe, hgk, I_wR, hread, r2]
            -- the cell is as it must be then
            have next : ∀ (f'' : Nat → Int32) (l10 : Int32), (∀ i, i ≠ ix c all j → f'' i = f' i) → (∃ r', RV (cnd W h.2.1 c all j (fun d' x' => Pr d' x' ∨ (d' = dd ∧ x' < x + 1))) r' ∧ f'' (ix c all j) = cv r') → gc_T P d 0 0 70 165 [.ref 44, .int (nI c), .int (nI all), .int (nI dd), .ref a', .int (nI (64 * ld_wo W c) - nI (2 ^ c)), .int (nI (ix c all 0)), .int (nI (ix (c + 1) (all - dd) 0)), .int (nI x), .int (nI j), .int (nI cc), .int l10] [] (gc_wR s (gc_be s) f'') Q := by
              intro f'' l10 e1 e2
              have ne : ∀ st, st ≠ j → ix c all st ≠ ix c all j := by
                intro st hne
                unfold ix
                omega
              refine b_X5_withClaim_165 hP hm ⟨by omega, sp_nextAbove hP hm (by omega) (by omega) ?_⟩
              show gc_T P d 0 0 70 90 [_, _, _, _, _, _, _, _, _, _, .int (nI cc + 1), _] [] _ Q
              rw [nI_1]
              refine ih2 (st_nxa j x) (cc + 1) (by omega) (by omega) (by omega) n2' n4 f'' _ (fun i hi => ?_) (fun st g1' g2' g3' => ?_) (fun st g1' g2' g3' => ?_)
              · rw [e1 i (by unfold ix at hi ⊢; omega)]
                exact f1 i hi
              · by_cases e : st = j
                · rw [e]
                  exact e2
                · rw [e1 _ (ne st e)]
                  by_cases e5 : st < j
                  · exact f2 st g1' e5 g3'
                  · obtain ⟨r', r1', r2'⟩ := f3 st (by omega) (by omega) g3'
                    exact ⟨r', RV_congr (noin st (n3 st (by omega) (by omega) g2')) r1', r2'⟩
              · rw [e1 _ (ne st (by omega))]
                exact f3 st (by omega) g2' g3'
            have hup := RV_up (a := ld_wo W c) (k := 2 ^ c) r1 q1
            have hup2 : RV (cnd W h.2.1 c all j (fun d' x' => Pr d' x' ∨ (d' = dd ∧ x' < x + 1))) (mx2 r (q.map (up2 (ld_wo W c) (2 ^ c)))) := RV_congr (fun v' => by
              rw [eqS j v']
              exact ⟨fun z => z.elim Or.inl (fun z2 => Or.inr ⟨hin, by omega, z2⟩), fun z => z.elim Or.inl (fun z2 => Or.inr z2.2.2)⟩) hup
            cases hqq : q with
            | none =>
              rw [hqq] at hup2
              exact ⟨rfl, vp_in_nI hi1lt (by decide), fun _ => next f' _ (fun _ _ => rfl) ⟨_, hup2, r2⟩, fun y => absurd rfl y⟩
            | some w =>
              rw [hqq] at hup2 q1
              have hCw : TV W h.2.1 (ld_c W - (c + 1)) (c + 1) (j - x) (all - dd) w := by
                rcases q1 with ⟨q1, _⟩ | ⟨w', q3, q4, _⟩
                · simp at q1
                · simp only [Option.some.injEq] at q3
                  rw [q3]
                  exact q4
              obtain ⟨w1, w2⟩ := TV_le hok (by omega) hCw
              have hup1 : cnd W h.2.1 c all j (fun d' x' => Pr d' x' ∨ (d' = dd ∧ x' < x + 1)) (up2 (ld_wo W c) (2 ^ c) w) := (eqS j _).mpr (Or.inr ⟨hin, by omega, w, hCw, rfl⟩)
              obtain ⟨u1, u2⟩ := cnd_le hok hc hup1
              have hsame : ∀ i, i ≠ ix c all j → upd f' (ix c all j) (cv (some (up2 (ld_wo W c) (2 ^ c) w))) i = f' i := fun i hi => pk_un hi
              refine ⟨rfl, vp_in_nI hi1lt (by decide), fun y => absurd y (cv_imp w1 w2), fun _ => ⟨rfl, vp_in_nI hi2lt (by decide), ?_⟩⟩
              rw [cv_add]
              cases hrr : r with
              | none =>
                rw [hrr] at hup2
                refine ⟨fun y => absurd y (cv_le_imp u1 u2), fun _ => ⟨rfl, vp_in_nI hi2lt (by decide), ?_⟩⟩
                rw [wR_wI]
                exact next _ _ hsame ⟨_, hup2, pk_us⟩
              | some z =>
                rw [hrr] at hup2 r1
                have hCz : cnd W h.2.1 c all j (fun d' x' => Pr d' x' ∨ (d' = dd ∧ x' < x)) z := by
                  rcases r1 with ⟨r1, _⟩ | ⟨z', r3, r4, _⟩
                  · simp at r1
                  · simp only [Option.some.injEq] at r3
                    rw [r3]
                    exact r4
                obtain ⟨z1, z2⟩ := cnd_le hok hc hCz
                have hup2 : RV _ (if z.1 < (up2 (ld_wo W c) (2 ^ c) w).1 ∨ (z.1 = (up2 (ld_wo W c) (2 ^ c) w).1 ∧ (up2 (ld_wo W c) (2 ^ c) w).2 < z.2) then some (up2 (ld_wo W c) (2 ^ c) w) else some z) := hup2
                rw [cv_le u1 u2 z1 z2]
                refine ⟨fun y => ?_, fun y => ⟨rfl, vp_in_nI hi2lt (by decide), ?_⟩⟩
                · rw [if_neg y] at hup2
                  refine next f' _ (fun _ _ => rfl) ⟨_, hup2, ?_⟩
                  rw [r2, hrr]
                · rw [if_pos (Decidable.byContradiction y)] at hup2
                  rw [wR_wI]
                  exact next _ _ hsame ⟨_, hup2, pk_us⟩
        have hst0 : st_in x x = true := st_in_iff.mpr ⟨Nat.le_refl _, Nat.le_refl _, Nat.le_refl _, Nat.le_refl _⟩
        refine inner (h.1 + 1) x 0 (by omega) (Nat.le_refl _) (Nat.zero_le _) (by omega) (fun _ => hst0) f' _ f1 (fun st h1 h2 h3 => ?_) (fun st h1 h2 h3 => f2 st (by omega) h2 h3)
        obtain ⟨r, r1, r2⟩ := f2 st h1 (by omega) h3
        refine ⟨r, RV_congr (noin st (bf fun z => ?_)) r1, r2⟩
        have := st_in_le (show st < 256 by omega) (show x < 256 by omega) z
        omega
  refine outer (h.1 + 1) 0 (by omega) f _ _ _ (fun _ _ => rfl) fun st h1 h2 h3 => ?_
  obtain ⟨r, r1, r2⟩ := hf st h1 h2 h3
  refine ⟨r, RV_congr (fun v' => cnd_pr fun d' x' _ _ _ _ => ⟨Or.inl, fun z => z.elim id (fun z2 => absurd z2.2 (Nat.not_lt_zero _))⟩) r1, r2⟩
end Tg
