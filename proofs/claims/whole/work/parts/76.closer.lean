/-! The reference: the table of depths comes closer until it is right. -/
def mv_use (W : ld_W) (o p st b : Nat) (m : mv_T) : Prop := (∃ k, k < ld_o W ∧ mv_oath W o p st b k = some m) ∨ (∃ k, k < ld_b W ∧ mv_barg W p st b k = some m)
theorem mv_use_all {W : ld_W} {o p st b : Nat} {m : mv_T} (h : mv_use W o p st b m) : m ∈ mv_all W o p st b := by
  rcases h with h | h
  · exact mv_all_mem.mpr (Or.inr (Or.inl h))
  · exact mv_all_mem.mpr (Or.inr (Or.inr h))
theorem mv_use_p {W : ld_W} {o p st b : Nat} {m : mv_T} (h : mv_use W o p st b m) : ∀ l, l ∈ m.2.1 → l.1 = p := by
  rcases h with ⟨k, hk, h⟩ | ⟨k, hk, h⟩
  · obtain ⟨_, t, _, rfl⟩ := mv_oath_of h
    intro l hl
    simp only [List.mem_singleton] at hl
    rw [hl]
  · obtain ⟨_, t, _, ⟨_, rfl⟩ | ⟨x, t2, _, _, rfl⟩⟩ := mv_barg_of h
    · intro l hl
      simp only [List.mem_singleton] at hl
      rw [hl]
    · intro l hl
      simp only [List.mem_cons, List.not_mem_nil, or_false] at hl
      rcases hl with hl | hl
      · rw [hl]
      · rw [hl]
def fT (T : Nat → Nat → Nat) : Nat → Nat → Nat → Nat := fun _ t c => T t c
def mo_v (T : Nat → Nat → Nat) (x : Option mv_T) : Nat := match x with
  | none => 0
  | some m => dp_ld (fT T) m.2.1
theorem mv_oath_ld {W : ld_W} {o p st b k : Nat} {T : Nat → Nat → Nat} (hbit : o / 2 ^ k % 2 = 1) : oa_v W T st b k = mo_v T (mv_oath W o p st b k) := by
  unfold mv_oath oa_v
  rw [if_pos hbit]
  cases dp_ch st (ld_tk W k) (ld_gv W k) with
  | none => rfl
  | some t => rfl
theorem mv_barg_ld {W : ld_W} {p st b k : Nat} {T : Nat → Nat → Nat} (hbit : b / 2 ^ k % 2 = 1) : ld_bv W (3 + k) (fun t => T t (b - 2 ^ k)) st = mo_v T (mv_barg W p st b k) := by
  rw [mv_barg_do, if_pos hbit]
  unfold ld_bv
  cases ld_do W (3 + k) st with
  | none => rfl
  | some r =>
    obtain ⟨t, o2⟩ := r
    cases o2 with
    | none => rfl
    | some t2 => rfl
theorem sh_ld {W : ld_W} {o p st b : Nat} {T : Nat → Nat → Nat} {m : mv_T} (hm : m ∈ mv_all W o p st b) (hlen : m.2.1.length ≤ 2) (hl : ∀ l, l ∈ m.2.1 → T l.2.1 l.2.2 ≠ 0 → dp_Sh W o (T l.2.1 l.2.2) l.1 l.2.1 l.2.2) (hne : dp_ld (fT T) m.2.1 ≠ 0) : dp_Sh W o (dp_ld (fT T) m.2.1) p st b := by
  have hps := dp_ld_pos hlen hne
  obtain ⟨n, hn⟩ : ∃ n, dp_ld (fT T) m.2.1 = n + 1 := ⟨dp_ld (fT T) m.2.1 - 1, by omega⟩
  rw [hn]
  refine ⟨m, hm, fun l z => ?_⟩
  obtain ⟨h1, h2⟩ := hps l z
  have h1 : T l.2.1 l.2.2 ≠ 0 := h1
  have h2 : T l.2.1 l.2.2 < dp_ld (fT T) m.2.1 := h2
  exact dp_Sh_mono (by omega) (hl l z h1)
def fl (B : Nat) (T : Nat → Nat → Nat) (i : Nat) : Nat := T (i / B) (i % B)
theorem fl_at' {B st b : Nat} {T : Nat → Nat → Nat} (hb : b < B) : fl B T (st * B + b) = T st b := by
  unfold fl
  rw [show (st * B + b) / B = st by rw [Nat.add_comm, Nat.add_mul_div_right _ _ (by omega), Nat.div_eq_of_lt hb, Nat.zero_add], show (st * B + b) % B = b by rw [Nat.add_comm, Nat.add_mul_mod_self_right, Nat.mod_eq_of_lt hb]]
theorem ix_lt {N B st b : Nat} (hs : st < N) (hb : b < B) : st * B + b < N * B := by
  have : (st + 1) * B ≤ N * B := Nat.mul_le_mul_right B hs
  rw [Nat.add_mul, Nat.one_mul] at this
  omega
theorem ix_of {N B i : Nat} (h : i < N * B) : i / B < N ∧ i % B < B := by
  have hB : 0 < B := by
    rcases Nat.eq_zero_or_pos B with e | e
    · rw [e, Nat.mul_zero] at h
      omega
    · exact e
  exact ⟨Nat.div_lt_of_lt_mul (by rw [Nat.mul_comm]; exact h), Nat.mod_lt _ hB⟩
/-- the table so far: what it says holds, and by the POINT's own kind it is no worse -/
def rc_I (W : ld_W) (o p : Nat) (T : Nat → Nat → Nat) : Prop := (∀ st b, st < ld_N W → b < 2 ^ ld_b W → T st b ≠ 0 → dp_Sh W o (T st b) p st b) ∧ (∀ st b, st < ld_N W → b < 2 ^ ld_b W → ∀ m, m ∈ mv_own W p st b → dp_bt (T st b) (dp_by W o m)) ∧ (∀ st b, st < ld_N W → b < 2 ^ ld_b W → T st b ≤ 92161 + dp_nz (fl (2 ^ ld_b W) T) (ld_N W * 2 ^ ld_b W))
theorem rc_le {W : ld_W} {o p : Nat} {T : Nat → Nat → Nat} (hok : ld_ok W) (h : rc_I W o p T) {st b : Nat} (hst : st < ld_N W) (hb : b < 2 ^ ld_b W) : T st b ≤ 94209 := by
  have h1 := h.2.2 st b hst hb
  have h2 := dp_nz_n (fl (2 ^ ld_b W) T) (ld_N W * 2 ^ ld_b W)
  have h3 : ld_N W * 2 ^ ld_b W ≤ 256 * 8 := Nat.mul_le_mul (ld_N_le hok) (ld_B_le hok)
  omega
def tup (T : Nat → Nat → Nat) (st b x : Nat) : Nat → Nat → Nat := fun t c => if t = st ∧ c = b then x else T t c
theorem rc_up {W : ld_W} {o p : Nat} {T : Nat → Nat → Nat} (hI : rc_I W o p T) {st b x : Nat} (hst : st < ld_N W) (hb : b < 2 ^ ld_b W) (hbt : dp_bt x (T st b)) (hsh : x ≠ 0 → dp_Sh W o x p st b) (hx : x ≤ 92161 + dp_nz (fl (2 ^ ld_b W) T) (ld_N W * 2 ^ ld_b W) + 1) : rc_I W o p (tup T st b x) := by
  have e1 : tup T st b x st b = x := by
    unfold tup
    rw [if_pos ⟨rfl, rfl⟩]
  have e2 : ∀ t c, ¬ (t = st ∧ c = b) → tup T st b x t c = T t c := by
    intro t c e
    unfold tup
    rw [if_neg e]
  refine ⟨fun t c ht hc hne => ?_, fun t c ht hc m hm => ?_, ?_⟩
  · by_cases e : t = st ∧ c = b
    · rw [e.1, e.2, e1] at hne ⊢
      exact hsh hne
    · rw [e2 t c e] at hne ⊢
      exact hI.1 t c ht hc hne
  · by_cases e : t = st ∧ c = b
    · rw [e.1, e.2] at hm ⊢
      rw [e1]
      exact dp_bt_trans hbt (hI.2.1 st b hst hb m hm)
    · rw [e2 t c e]
      exact hI.2.1 t c ht hc m hm
  · have hfl : fl (2 ^ ld_b W) (tup T st b x) = (fun j => if j = st * 2 ^ ld_b W + b then x else fl (2 ^ ld_b W) T j) := by
      funext j
      have hB : 0 < 2 ^ ld_b W := Nat.pow_pos (by decide)
      by_cases e : j = st * 2 ^ ld_b W + b
      · rw [if_pos e, e, fl_at' hb, e1]
      · rw [if_neg e]
        unfold fl
        refine e2 _ _ fun z => e ?_
        rw [← z.1, ← z.2, Nat.mul_comm]
        exact (Nat.div_add_mod j _).symm
    have hlst : dp_lst (fl (2 ^ ld_b W) T (st * 2 ^ ld_b W + b)) x = x := by
      rw [fl_at' hb]
      unfold dp_lst
      unfold dp_bt at hbt
      split
      · rfl
      · omega
    have key := dp_nz_step (d := fl (2 ^ ld_b W) T) (n := ld_N W * 2 ^ ld_b W) (i := st * 2 ^ ld_b W + b) (v := x) (K := 92161) (ix_lt hst hb) (fun j hj => by
      obtain ⟨j1, j2⟩ := ix_of hj
      exact hI.2.2 _ _ j1 j2) hx
    rw [hlst] at key
    intro t c ht hc
    have := key (t * 2 ^ ld_b W + c) (ix_lt ht hc)
    rw [hfl, ← fl_at' (T := tup T st b x) hc, hfl]
    exact this
/-- a table that no deal makes better is right -/
theorem rc_fin {W : ld_W} {o p : Nat} {T : Nat → Nat → Nat} (hok : ld_ok W) (hp : p < ld_p W) (hI : rc_I W o p T) (hc : ∀ st b, st < ld_N W → b < 2 ^ ld_b W → ∀ m, mv_use W o p st b m → dp_bt (T st b) (dp_ld (fT T) m.2.1)) : ∀ st b, st < ld_N W → b < 2 ^ ld_b W → T st b = dp_D W o p st b := by
  have key := dp_uniq (W := W) (o := o) (X := fun p' st b => p' ≤ p ∧ st < ld_N W ∧ b < 2 ^ ld_b W) (d := fun p' st b => if p' = p then T st b else dp_D W o p' st b) ?_ ?_ ?_
  · intro st b hst hb
    have := key p st b ⟨Nat.le_refl _, hst, hb⟩
    simp only [if_true] at this
    exact this
  · rintro p' st b ⟨h1, h2, h3⟩ m hm l hl
    have hb8 := p8 hok.1.2.2.1 h3
    obtain ⟨g1, g2, g3, g4, g5⟩ := (mv_ld hok (show p' < ld_p W by omega) h2 hb8 hm).2 l hl
    have := (sb_le b hb8 l.2.2 g4 g5).1
    exact ⟨by omega, g3, by omega⟩
  · rintro p' st b ⟨h1, h2, h3⟩ hne
    by_cases e : p' = p
    · simp only [e, if_true] at hne ⊢
      exact hI.1 st b h2 h3 hne
    · simp only [if_neg e] at hne ⊢
      exact dp_D_sh hne
  · rintro p' st b ⟨h1, h2, h3⟩ m hm
    have hb8 := p8 hok.1.2.2.1 h3
    have hml := mv_ld hok (show p' < ld_p W by omega) h2 hb8 hm
    have hlow : ∀ l, l ∈ m.2.1 → l.1 < p → (if l.1 = p then T l.2.1 l.2.2 else dp_D W o l.1 l.2.1 l.2.2) = dp_D W o l.1 l.2.1 l.2.2 := fun l _ z => if_neg (by omega)
    by_cases e : p' = p
    · subst e
      show dp_bt (if p' = p' then T st b else _) _
      rw [if_pos rfl]
      rcases mv_all_mem.mp hm with hm' | hm'
      · rw [dp_ld_congr (e := dp_D W o) fun l hl => hlow l hl (by
          obtain ⟨⟨k3, k4⟩, _⟩ := (mv_own_ld hok hp h2 hb8 hm').2 l hl
          have hpp := ld_part hok hp k3
          rcases k4 with k4 | ⟨k5, k4⟩
          · omega
          · have := hpp.2.2.1 k5
            omega)]
        exact hI.2.1 st b h2 h3 m hm'
      · rw [dp_ld_congr (e := fT T) fun l hl => if_pos (mv_use_p hm' l hl)]
        exact hc st b h2 h3 m hm'
    · show dp_bt (if p' = p then _ else dp_D W o p' st b) _
      rw [if_neg e, dp_ld_congr (e := dp_D W o) fun l hl => hlow l hl (by have := (hml.2 l hl).2.1; omega)]
      exact dp_D_by hok (by omega) h2 hb8 hm
/-- a round of deals: one more is right, if any was not -/
theorem rc_round {W : ld_W} {o p : Nat} {T T' : Nat → Nat → Nat} (hok : ld_ok W) (hp : p < ld_p W) (hI : rc_I W o p T) (hI' : rc_I W o p T') (hbt : ∀ st b, st < ld_N W → b < 2 ^ ld_b W → dp_bt (T' st b) (T st b)) (hc : ∀ st b, st < ld_N W → b < 2 ^ ld_b W → ∀ m, mv_use W o p st b m → dp_bt (T' st b) (dp_ld (fT T) m.2.1)) (hex : ∃ st b, st < ld_N W ∧ b < 2 ^ ld_b W ∧ T st b ≠ dp_D W o p st b) :
    dp_ct (fun i => !decide (fl (2 ^ ld_b W) T' i = fl (2 ^ ld_b W) (fun st b => dp_D W o p st b) i)) (ld_N W * 2 ^ ld_b W) < dp_ct (fun i => !decide (fl (2 ^ ld_b W) T i = fl (2 ^ ld_b W) (fun st b => dp_D W o p st b) i)) (ld_N W * 2 ^ ld_b W) := by
  refine dp_pass (D := fl (2 ^ ld_b W) (fun st b => dp_D W o p st b)) (d := fl (2 ^ ld_b W) T) (d' := fl (2 ^ ld_b W) T') (fun i hi => hbt _ _ (ix_of hi).1 (ix_of hi).2) (fun i hi y => dp_D_le (hI.1 _ _ (ix_of hi).1 (ix_of hi).2 y)) (fun i hi y => dp_D_le (hI'.1 _ _ (ix_of hi).1 (ix_of hi).2 y)) ?_ ?_
  · intro i hi hD hne
    obtain ⟨i1, i2⟩ := ix_of hi
    have hb8 := p8 hok.1.2.2.1 i2
    obtain ⟨m, hm, hby⟩ := dp_D_at hok hp i1 hb8 hD
    rcases mv_all_mem.mp hm with hm' | hm'
    · have h1 := hI.2.1 _ _ i1 i2 m hm'
      rw [hby] at h1
      exact absurd (dp_bt_eq h1 (fun y => dp_D_le (hI.1 _ _ i1 i2 y))) hne
    · have hml := mv_ld hok hp i1 hb8 hm
      have hpos := dp_ld_pos hml.1 (show dp_ld (dp_D W o) m.2.1 ≠ 0 by show dp_by W o m ≠ 0; rw [hby]; exact hD)
      have hlb : ∀ l, l ∈ m.2.1 → l.2.2 < 2 ^ ld_b W := by
        intro l hl
        obtain ⟨_, _, _, g4, g5⟩ := hml.2 l hl
        have := (sb_le _ hb8 l.2.2 g4 g5).1
        omega
      refine ⟨m.2.1.map (fun l => l.2.1 * 2 ^ ld_b W + l.2.2), fun j hj => ?_, fun hj => ?_⟩
      · obtain ⟨l, hl, rfl⟩ := List.mem_map.mp hj
        refine ⟨ix_lt (hml.2 l hl).2.2.1 (hlb l hl), ?_⟩
        rw [fl_at' (hlb l hl)]
        have h2 : dp_D W o l.1 l.2.1 l.2.2 < dp_by W o m := (hpos l hl).2
        rw [hby, mv_use_p hm' l hl] at h2
        exact h2
      · have h1 := hc _ _ i1 i2 m hm'
        rw [dp_ld_congr (e := dp_D W o) fun l hl => by
          have h3 := hj _ (List.mem_map.mpr ⟨l, hl, rfl⟩)
          rw [fl_at' (hlb l hl), fl_at' (hlb l hl)] at h3
          rw [mv_use_p hm' l hl]
          exact h3] at h1
        have h4 : dp_ld (dp_D W o) m.2.1 = dp_D W o p (i / 2 ^ ld_b W) (i % 2 ^ ld_b W) := hby
        rw [h4] at h1
        exact dp_bt_eq h1 (fun y => dp_D_le (hI'.1 _ _ i1 i2 y))
  · obtain ⟨st, b, h1, h2, h3⟩ := hex
    refine ⟨st * 2 ^ ld_b W + b, ix_lt h1 h2, ?_⟩
    rw [fl_at' h2, fl_at' h2]
    exact h3
theorem dp_ld_mono {T T' : Nat → Nat → Nat} {ls : List (Nat × Nat × Nat)} (hlen : ls.length ≤ 2) (h : ∀ l, l ∈ ls → dp_bt (T' l.2.1 l.2.2) (T l.2.1 l.2.2)) : dp_bt (dp_ld (fT T') ls) (dp_ld (fT T) ls) := dp_ld_bt hlen h
section Cc
variable {P : gc_Pr} {d : Nat} {s : gc_St} {Q : gc_TQ} {W : ld_W} {lv o p : Nat}
theorem rf_100 (h : rf_law W lv s) (f : Nat → Int32) : rf_law W lv (gc_wR s 100 f) := rf_law_of h rfl (fun a e => I_wRn s f (by
  intro z
  rw [z] at e
  exact absurd e (by decide)))
theorem rtb_w {f : Nat → Int32} {T : Nat → Nat → Nat} (hok : ld_ok W) (hp : p < ld_p W) (h : rtb W o p T (gc_wR s 100 f)) {st b x : Nat} (hst : st < ld_N W) (hb : b < 2 ^ ld_b W) : rtb W o p (tup T st b x) (gc_wR s 100 (upd f (sp3 p st b) (nI x))) := by
  have hN := ld_N_le hok
  have hb8 := p8 hok.1.2.2.1 hb
  obtain ⟨h1, h2⟩ := h
  rw [I_wR] at h1 h2
  unfold rtb
  rw [I_wR]
  refine ⟨fun p' hp' t c ht hc => ?_, fun t c ht hc => ?_⟩
  · rw [pk_un (fun e => by
      have := sp3_inj (by omega) (p8 hok.1.2.2.1 hc) (by omega) hb8 e
      omega)]
    exact h1 p' hp' t c ht hc
  · unfold tup
    by_cases e : t = st ∧ c = b
    · rw [if_pos e, e.1, e.2, pk_us]
    · rw [if_neg e, pk_un (fun e2 => by
        have := sp3_inj (by omega) (p8 hok.1.2.2.1 hc) (by omega) hb8 e2
        omega)]
      exact h2 t c ht hc
theorem sp_comesCloser (hP : gc_Cl P) (hm : gc_Mo P) (hd : 3 ≤ d) (hl : rf_law W lv s) (ho : o < 8) (hF : gc_F s 67 53 = nI o) (hp : p < ld_p W) {T : Nat → Nat → Nat} {f : Nat → Int32} (hT : rtb W o p T (gc_wR s 100 f)) (hI : rc_I W o p T)
    (h : ∀ T' f' (c : Bool), rtb W o p T' (gc_wR s 100 f') → rc_I W o p T' → (∀ st b, st < ld_N W → b < 2 ^ ld_b W → dp_bt (T' st b) (T st b)) → (∀ st b, st < ld_N W → b < 2 ^ ld_b W → ∀ m, mv_use W o p st b m → dp_bt (T' st b) (dp_ld (fT T) m.2.1)) → (c = false → ∀ st b, st < ld_N W → b < 2 ^ ld_b W → T' st b = T st b) → (c = true → ∃ st b, st < ld_N W ∧ b < 2 ^ ld_b W ∧ T' st b ≠ T st b) → Q (some (.int (cb c))) (gc_wR s 100 f')) :
    gc_T P d 0 0 238 0 [.ref 67, .int (nI p), gc_u, gc_u, gc_u, gc_u, gc_u] [] (gc_wR s 100 f) Q := by
  have hok := hl.1.2.2
  have hp24 := hok.1.2.2.2.2
  have hN := ld_N_le hok
  have hB : 2 ^ ld_b W ≤ 8 := ld_B_le hok
  have hlv := hl.1.1
  have o3 := hok.1.2.1
  have b3 := hok.1.2.2.1
  have hL := fun f => rf_100 hl f
  have hF19 : ∀ f, gc_F (gc_wR s 100 f) 67 19 = nI lv := fun _ => hl.1.2.1
  have hF53 : ∀ f, gc_F (gc_wR s 100 f) 67 53 = nI o := fun _ => hF
  refine b_X11_comesCloser_0 hP hm ?_
  -- the whole pass
  have outer : ∀ n st, st + n = ld_N W → ∀ (Tc : Nat → Nat → Nat) (fc : Nat → Int32) (c : Bool) (l4 l5 l6 : Value), rtb W o p Tc (gc_wR s 100 fc) → rc_I W o p Tc → (∀ t b, t < ld_N W → b < 2 ^ ld_b W → dp_bt (Tc t b) (T t b)) → (∀ t b, t < st → b < 2 ^ ld_b W → ∀ m, mv_use W o p t b m → dp_bt (Tc t b) (dp_ld (fT T) m.2.1)) → (∀ t b, st ≤ t → Tc t b = T t b) → (c = false → ∀ t b, t < ld_N W → b < 2 ^ ld_b W → Tc t b = T t b) → (c = true → ∃ t b, t < st ∧ t < ld_N W ∧ b < 2 ^ ld_b W ∧ Tc t b ≠ T t b) →
      gc_T P d 0 0 238 4 [.ref 67, .int (nI p), .int (cb c), .int (nI st), l4, l5, l6] [] (gc_wR s 100 fc) Q := by
    intro n
    induction n with
    | zero =>
      intro st hst Tc fc c l4 l5 l6 h1 h2 h3 h4 h5 h6 h7
      refine b_X11_comesCloser_4 hP hm ⟨by omega, sp_stocksAll hP hm (hL fc) (pk_le (ld_N W) st (fun _ => ⟨by cases c; exact Or.inl rfl; exact Or.inr rfl, ?_⟩) (fun z => by omega))⟩
      refine h Tc fc c h1 h2 h3 (fun t b ht hb m hmm => h4 t b (by omega) hb m hmm) h6 (fun z => ?_)
      obtain ⟨t, b, y1, y2, y3, y4⟩ := h7 z
      exact ⟨t, b, y2, y3, y4⟩
    | succ n ih =>
      intro st hst Tc fc c l4 l5 l6 h1 h2 h3 h4 h5 h6 h7
      have hstN : st < ld_N W := by omega
      refine b_X11_comesCloser_4 hP hm ⟨by omega, sp_stocksAll hP hm (hL fc) (pk_le (ld_N W) st (fun z => by omega) (fun _ => ?_))⟩
      have inner : ∀ n2 b, b + n2 = 2 ^ ld_b W → ∀ (Tc : Nat → Nat → Nat) (fc : Nat → Int32) (c : Bool) (l5 l6 : Value), rtb W o p Tc (gc_wR s 100 fc) → rc_I W o p Tc → (∀ t b, t < ld_N W → b < 2 ^ ld_b W → dp_bt (Tc t b) (T t b)) → (∀ t b', t < st ∨ (t = st ∧ b' < b) → b' < 2 ^ ld_b W → ∀ m, mv_use W o p t b' m → dp_bt (Tc t b') (dp_ld (fT T) m.2.1)) → (∀ t b', st < t ∨ (t = st ∧ b ≤ b') → Tc t b' = T t b') → (c = false → ∀ t b, t < ld_N W → b < 2 ^ ld_b W → Tc t b = T t b) → (c = true → ∃ t b', (t < st ∨ (t = st ∧ b' < b)) ∧ t < ld_N W ∧ b' < 2 ^ ld_b W ∧ Tc t b' ≠ T t b') →
          gc_T P d 0 0 238 15 [.ref 67, .int (nI p), .int (cb c), .int (nI st), .int (nI b), l5, l6] [] (gc_wR s 100 fc) Q := by
        intro n2
        induction n2 with
        | zero =>
          intro b hb Tc fc c l5 l6 g1 g2 g3 g4 g5 g6 g7
          refine b_X11_comesCloser_15 hP hm ?_
          rw [hF19, nI_clamp (by omega), (hL fc).2.1.2.2.1, ld_Bsh b3]
          refine ⟨vp_in_nI hlv (by omega), pk_le (2 ^ ld_b W) b (fun _ => ?_) (fun z => by omega)⟩
          rw [nI_1]
          refine ih (st + 1) (by omega) Tc fc c _ _ _ g1 g2 g3 (fun t b' ht hb' m hmm => g4 t b' (by omega) hb' m hmm) (fun t b' ht => g5 t b' (Or.inl (by omega))) g6 (fun z => ?_)
          obtain ⟨t, b', y1, y2, y3, y4⟩ := g7 z
          exact ⟨t, b', by omega, y2, y3, y4⟩
        | succ n2 ih2 =>
          intro b hb Tc fc c l5 l6 g1 g2 g3 g4 g5 g6 g7
          have hbB : b < 2 ^ ld_b W := by omega
          have hb8 : b < 8 := by omega
          have hsp := sp3_lt (show p < 24 by omega) (show st < 256 by omega) hb8
          have hTK : ∀ t c, t < ld_N W → c < 2 ^ ld_b W → Tc t c ≤ 94209 := fun t c ht hc => rc_le hok g2 ht hc
          have hnz := dp_nz_n (fl (2 ^ ld_b W) Tc) (ld_N W * 2 ^ ld_b W)
          have hNB : ld_N W * 2 ^ ld_b W ≤ 256 * 8 := Nat.mul_le_mul hN hB
          have hcur := g1.2 st b hstN hbB
          -- a value that comes in
          have use : ∀ m, mv_use W o p st b m → (dp_ld (fT Tc) m.2.1 ≠ 0 → dp_Sh W o (dp_ld (fT Tc) m.2.1) p st b) ∧ dp_ld (fT Tc) m.2.1 ≤ 92161 + dp_nz (fl (2 ^ ld_b W) Tc) (ld_N W * 2 ^ ld_b W) + 1 ∧ dp_bt (dp_ld (fT Tc) m.2.1) (dp_ld (fT T) m.2.1) := by
            intro m hmm
            have hml := mv_ld hok hp hstN hb8 (mv_use_all hmm)
            have hlb : ∀ l, l ∈ m.2.1 → l.2.1 < ld_N W ∧ l.2.2 < 2 ^ ld_b W := by
              intro l hll
              obtain ⟨_, _, k3, k4, k5⟩ := hml.2 l hll
              have := (sb_le b hb8 l.2.2 k4 k5).1
              exact ⟨k3, by omega⟩
            refine ⟨sh_ld (mv_use_all hmm) hml.1 (fun l hll hne => ?_), ?_, dp_ld_mono hml.1 fun l hll => g3 _ _ (hlb l hll).1 (hlb l hll).2⟩
            · rw [mv_use_p hmm l hll]
              exact g2.1 _ _ (hlb l hll).1 (hlb l hll).2 hne
            · have hv : ∀ l, l ∈ m.2.1 → fT Tc l.1 l.2.1 l.2.2 ≤ 92161 + dp_nz (fl (2 ^ ld_b W) Tc) (ld_N W * 2 ^ ld_b W) := fun l hll => g2.2.2 _ _ (hlb l hll).1 (hlb l hll).2
              generalize m.2.1 = ls at hv
              match ls, hv with
              | [], _ => show 1 ≤ _; omega
              | [l], hv => exact dp_one_le (hv l (by simp))
              | l :: k :: r, hv => exact dp_both_le (hv l (by simp)) (hv k (by simp))
          -- behind all deals
          have last : ∀ x, dp_bt x (Tc st b) → (∀ m, mv_use W o p st b m → dp_bt x (dp_ld (fT T) m.2.1)) → (x ≠ 0 → dp_Sh W o x p st b) → x ≤ 92161 + dp_nz (fl (2 ^ ld_b W) Tc) (ld_N W * 2 ^ ld_b W) + 1 → ∀ k, k = ld_b W → gc_T P d 0 0 238 101 [.ref 67, .int (nI p), .int (cb c), .int (nI st), .int (nI b), .int (nI x), .int (nI k)] [] (gc_wR s 100 fc) Q := by
            intro x x1 x2 x3 x4 k hk
            refine b_X11_comesCloser_101 hP hm ?_
            rw [hF19, nI_clamp (by omega), (hL fc).2.1.2.2.1]
            refine ⟨vp_in_nI hlv (by omega), pk_le (ld_b W) k (fun _ => ⟨by omega, sp_spot hP hm ⟨vp_in_nI hsp (by omega), ?_⟩⟩) (fun z => by omega)⟩
            rw [nI_clamp (by omega), hcur, nI_eq (by omega) (by have := hTK st b hstN hbB; omega)]
            refine ⟨fun y => ⟨by omega, sp_spot hP hm ⟨vp_in_nI hsp (by omega), ?_⟩⟩, fun y => b_X11_comesCloser_185 hP hm ?_⟩
            · rw [nI_clamp (by omega), wR_wI]
              refine b_X11_comesCloser_185 hP hm ?_
              rw [nI_1]
              refine ih2 (b + 1) (by omega) (tup Tc st b x) _ true _ _ (rtb_w hok hp g1 hstN hbB) (rc_up g2 hstN hbB x1 x3 x4) (fun t b' ht hb' => ?_) (fun t b' ht hb' m hmm => ?_) (fun t b' ht => ?_) (fun z => absurd z (by decide)) (fun _ => ⟨st, b, Or.inr ⟨rfl, by omega⟩, hstN, hbB, ?_⟩)
              · unfold tup
                by_cases e : t = st ∧ b' = b
                · rw [if_pos e, e.1, e.2]
                  exact dp_bt_trans x1 (g3 st b hstN hbB)
                · rw [if_neg e]
                  exact g3 t b' ht hb'
              · unfold tup
                by_cases e : t = st ∧ b' = b
                · rw [if_pos e]
                  rw [e.1, e.2] at hmm
                  exact x2 m hmm
                · rw [if_neg e]
                  exact g4 t b' (by omega) hb' m hmm
              · unfold tup
                rw [if_neg (by omega)]
                exact g5 t b' (by omega)
              · unfold tup
                rw [if_pos ⟨rfl, rfl⟩, ← g5 st b (Or.inr ⟨rfl, Nat.le_refl _⟩)]
                exact y
            · rw [nI_1]
              refine ih2 (b + 1) (by omega) Tc fc c _ _ g1 g2 g3 (fun t b' ht hb' m hmm => ?_) (fun t b' ht => g5 t b' (by omega)) g6 (fun z => ?_)
              · by_cases e : t = st ∧ b' = b
                · rw [e.1, e.2] at hmm ⊢
                  rw [← y]
                  exact x2 m hmm
                · exact g4 t b' (by omega) hb' m hmm
              · obtain ⟨t, b', y1, y2⟩ := g7 z
                exact ⟨t, b', by omega, y2⟩
          -- BARGAINS
          have bl : ∀ n3 k, k + n3 = ld_b W → ∀ x, dp_bt x (Tc st b) → (∀ m, ((∃ k, k < ld_o W ∧ mv_oath W o p st b k = some m) ∨ (∃ k', k' < k ∧ mv_barg W p st b k' = some m)) → dp_bt x (dp_ld (fT T) m.2.1)) → (x ≠ 0 → dp_Sh W o x p st b) → x ≤ 92161 + dp_nz (fl (2 ^ ld_b W) Tc) (ld_N W * 2 ^ ld_b W) + 1 → gc_T P d 0 0 238 101 [.ref 67, .int (nI p), .int (cb c), .int (nI st), .int (nI b), .int (nI x), .int (nI k)] [] (gc_wR s 100 fc) Q := by
            intro n3
            induction n3 with
            | zero =>
              intro k hk x x1 x2 x3 x4
              refine last x x1 (fun m hmm => x2 m ?_) x3 x4 k (by omega)
              rw [show k = ld_b W by omega]
              exact hmm
            | succ n3 ih3 =>
              intro k hk x x1 x2 x3 x4
              refine b_X11_comesCloser_101 hP hm ?_
              rw [hF19, nI_clamp (by omega), (hL fc).2.1.2.2.1]
              refine ⟨vp_in_nI hlv (by omega), pk_le (ld_b W) k (fun z => by omega) (fun _ => ?_)⟩
              rw [st_bit1 (by omega) (by omega)]
              have next : ∀ y, dp_bt y x → (∀ m, mv_barg W p st b k = some m → dp_bt y (dp_ld (fT T) m.2.1)) → (y ≠ 0 → dp_Sh W o y p st b) → y ≤ 92161 + dp_nz (fl (2 ^ ld_b W) Tc) (ld_N W * 2 ^ ld_b W) + 1 → gc_T P d 0 0 238 143 [.ref 67, .int (nI p), .int (cb c), .int (nI st), .int (nI b), .int (nI y), .int (nI k)] [] (gc_wR s 100 fc) Q := by
                intro y y1 y2 y3 y4
                refine b_X11_comesCloser_143 hP hm ?_
                rw [nI_1]
                refine ih3 (k + 1) (by omega) y (dp_bt_trans y1 x1) (fun m hmm => ?_) y3 y4
                rcases hmm with hmm | ⟨k', hk', hmm⟩
                · exact dp_bt_trans y1 (x2 m (Or.inl hmm))
                · by_cases e : k' = k
                  · rw [e] at hmm
                    exact y2 m hmm
                  · exact dp_bt_trans y1 (x2 m (Or.inr ⟨k', by omega, hmm⟩))
              refine ⟨fun y => next x (dp_bt_refl _) (fun m hmm => absurd (mv_barg_of hmm).1 y) x3 x4, fun hbit => ⟨by omega, ?_⟩⟩
              refine sp_mbyBargain hP hm (by omega) (hL fc) hp (K := 94209) (by decide) g1 hTK hstN hbB (by omega) hbit ⟨by omega, ?_⟩
              rw [mv_barg_ld (p := p) hbit]
              cases e : mv_barg W p st b k with
              | none =>
                refine sp_mleast hP hm (y := 0) (by omega) (by decide) ?_
                rw [dp_lst_0]
                exact next x (dp_bt_refl _) (fun m hmm => by rw [e] at hmm; simp at hmm) x3 x4
              | some m =>
                obtain ⟨u1, u2, u3⟩ := use m (Or.inr ⟨k, by omega, e⟩)
                refine sp_mleast hP hm (by omega) (by show dp_ld (fT Tc) m.2.1 < 2 ^ 31; omega) (next _ (dp_lst_l _ _) (fun m' hmm => ?_) (fun hne => ?_) (dp_lst_le x4 u2))
                · rw [e] at hmm
                  simp only [Option.some.injEq] at hmm
                  rw [← hmm]
                  exact dp_bt_trans (dp_lst_r _ _) u3
                · rcases dp_lst_or x (dp_ld (fT Tc) m.2.1) with z | z
                  · have z' : dp_lst x (mo_v Tc (some m)) = x := z
                    rw [z'] at hne ⊢
                    exact x3 hne
                  · have z' : dp_lst x (mo_v Tc (some m)) = dp_ld (fT Tc) m.2.1 := z
                    rw [z'] at hne ⊢
                    exact u1 hne
          -- OATHS
          have ol : ∀ n3 k, k + n3 = ld_o W → ∀ x, dp_bt x (Tc st b) → (∀ m, (∃ k', k' < k ∧ mv_oath W o p st b k' = some m) → dp_bt x (dp_ld (fT T) m.2.1)) → (x ≠ 0 → dp_Sh W o x p st b) → x ≤ 92161 + dp_nz (fl (2 ^ ld_b W) Tc) (ld_N W * 2 ^ ld_b W) + 1 → gc_T P d 0 0 238 48 [.ref 67, .int (nI p), .int (cb c), .int (nI st), .int (nI b), .int (nI x), .int (nI k)] [] (gc_wR s 100 fc) Q := by
            intro n3
            induction n3 with
            | zero =>
              intro k hk x x1 x2 x3 x4
              refine b_X11_comesCloser_48 hP hm ?_
              rw [hF19, nI_clamp (by omega), (hL fc).2.1.2.1]
              refine ⟨vp_in_nI hlv (by omega), pk_le (ld_o W) k (fun _ => ?_) (fun z => by omega)⟩
              refine bl (ld_b W) 0 (by omega) x x1 (fun m hmm => ?_) x3 x4
              rcases hmm with ⟨k', hk', hmm⟩ | ⟨k', hk', _⟩
              · exact x2 m ⟨k', by omega, hmm⟩
              · omega
            | succ n3 ih3 =>
              intro k hk x x1 x2 x3 x4
              refine b_X11_comesCloser_48 hP hm ?_
              rw [hF19, hF53, nI_clamp (by omega), (hL fc).2.1.2.1]
              refine ⟨vp_in_nI hlv (by omega), pk_le (ld_o W) k (fun z => by omega) (fun _ => ?_)⟩
              rw [st_bit1 (by omega) (by omega)]
              have next : ∀ y, dp_bt y x → (∀ m, mv_oath W o p st b k = some m → dp_bt y (dp_ld (fT T) m.2.1)) → (y ≠ 0 → dp_Sh W o y p st b) → y ≤ 92161 + dp_nz (fl (2 ^ ld_b W) Tc) (ld_N W * 2 ^ ld_b W) + 1 → gc_T P d 0 0 238 92 [.ref 67, .int (nI p), .int (cb c), .int (nI st), .int (nI b), .int (nI y), .int (nI k)] [] (gc_wR s 100 fc) Q := by
                intro y y1 y2 y3 y4
                refine b_X11_comesCloser_92 hP hm ?_
                rw [nI_1]
                refine ih3 (k + 1) (by omega) y (dp_bt_trans y1 x1) (fun m hmm => ?_) y3 y4
                obtain ⟨k', hk', hmm⟩ := hmm
                by_cases e : k' = k
                · rw [e] at hmm
                  exact y2 m hmm
                · exact dp_bt_trans y1 (x2 m ⟨k', by omega, hmm⟩)
              refine ⟨fun y => next x (dp_bt_refl _) (fun m hmm => absurd (mv_oath_of hmm).1 y) x3 x4, fun hbit => ⟨by omega, ?_⟩⟩
              refine sp_mbyOath hP hm (by omega) (hL fc) hp (K := 94209) (by decide) g1 hTK hstN hbB (by omega) ⟨by omega, ?_⟩
              rw [mv_oath_ld (o := o) (p := p) hbit]
              cases e : mv_oath W o p st b k with
              | none =>
                refine sp_mleast hP hm (y := 0) (by omega) (by decide) ?_
                rw [dp_lst_0]
                exact next x (dp_bt_refl _) (fun m hmm => by rw [e] at hmm; simp at hmm) x3 x4
              | some m =>
                obtain ⟨u1, u2, u3⟩ := use m (Or.inl ⟨k, by omega, e⟩)
                refine sp_mleast hP hm (by omega) (by show dp_ld (fT Tc) m.2.1 < 2 ^ 31; omega) (next _ (dp_lst_l _ _) (fun m' hmm => ?_) (fun hne => ?_) (dp_lst_le x4 u2))
                · rw [e] at hmm
                  simp only [Option.some.injEq] at hmm
                  rw [← hmm]
                  exact dp_bt_trans (dp_lst_r _ _) u3
                · rcases dp_lst_or x (dp_ld (fT Tc) m.2.1) with z | z
                  · have z' : dp_lst x (mo_v Tc (some m)) = x := z
                    rw [z'] at hne ⊢
                    exact x3 hne
                  · have z' : dp_lst x (mo_v Tc (some m)) = dp_ld (fT Tc) m.2.1 := z
                    rw [z'] at hne ⊢
                    exact u1 hne
          refine b_X11_comesCloser_15 hP hm ?_
          rw [hF19, nI_clamp (by omega), (hL fc).2.1.2.2.1, ld_Bsh b3]
          refine ⟨vp_in_nI hlv (by omega), pk_le (2 ^ ld_b W) b (fun z => by omega) (fun _ => ⟨by omega, sp_spot hP hm ⟨vp_in_nI hsp (by omega), ?_⟩⟩)⟩
          rw [nI_clamp (by omega), hcur]
          have hub := g2.2.2 st b hstN hbB
          exact ol (ld_o W) 0 (by omega) (Tc st b) (dp_bt_refl _) (fun m hmm => by obtain ⟨k', hk', _⟩ := hmm; omega) (g2.1 st b hstN hbB) (by omega)
      refine inner (2 ^ ld_b W) 0 (by omega) Tc fc c _ _ h1 h2 h3 (fun t b' ht hb' m hmm => h4 t b' (by omega) hb' m hmm) (fun t b' ht => h5 t b' (by omega)) h6 (fun z => ?_)
      obtain ⟨t, b', y1, y2⟩ := h7 z
      exact ⟨t, b', Or.inl y1, y2⟩
  exact outer (ld_N W) 0 (by omega) T f false _ _ _ hT hI (fun _ _ _ _ => dp_bt_refl _) (fun t b ht => absurd ht (Nat.not_lt_zero _)) (fun _ _ _ => rfl) (fun _ _ _ _ _ => rfl) (fun z => absurd z (by decide))
end Cc
