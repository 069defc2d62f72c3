/-! OATHS until nothing changes; SPLITS; the POINT's own kind. -/
noncomputable def rw_spls (W : ld_W) (o p b : Nat) (r : Nat → Nat) : Nat → Nat → Nat
  | 0 => r
  | c + 1 => if sb_in c b = true then rw_spl (ld_N W) (fun st => dp_D W o (ld_fi W p) st c) (fun st => dp_D W o (ld_se W p) st (b - c)) (rw_spls W o p b r c) (ld_N W) else rw_spls W o p b r c
theorem rw_spl_p {N : Nat} {q1 q2 r : Nat → Nat} : ∀ k st, dp_bt (rw_spl N q1 q2 r k st) (r st) ∧ (∀ u, u < k → st < N → st_in u st = true → dp_bt (rw_spl N q1 q2 r k st) (dp_both (q1 u) (q2 (st - u)))) ∧ (rw_spl N q1 q2 r k st = r st ∨ ∃ u, u < k ∧ st < N ∧ st_in u st = true ∧ rw_spl N q1 q2 r k st = dp_both (q1 u) (q2 (st - u)))
  | 0, st => ⟨dp_bt_refl _, fun u hu => absurd hu (Nat.not_lt_zero _), Or.inl rfl⟩
  | k + 1, st => by
    obtain ⟨h1, h2, h3⟩ := rw_spl_p (N := N) (q1 := q1) (q2 := q2) (r := r) k st
    by_cases e : st < N ∧ st_in k st = true
    · have e1 : rw_spl N q1 q2 r (k + 1) st = dp_lst (rw_spl N q1 q2 r k st) (dp_both (q1 k) (q2 (st - k))) := by
        show (if st < N ∧ st_in k st = true then _ else _) = _
        rw [if_pos e]
      rw [e1]
      refine ⟨dp_bt_trans (dp_lst_l _ _) h1, fun u hu hs hin => ?_, ?_⟩
      · by_cases eu : u = k
        · rw [eu]
          exact dp_lst_r _ _
        · exact dp_bt_trans (dp_lst_l _ _) (h2 u (by omega) hs hin)
      · rcases dp_lst_or (rw_spl N q1 q2 r k st) (dp_both (q1 k) (q2 (st - k))) with z | z
        · rw [z]
          rcases h3 with h3 | ⟨u, h4, h5⟩
          · exact Or.inl h3
          · exact Or.inr ⟨u, by omega, h5⟩
        · rw [z]
          exact Or.inr ⟨k, by omega, e.1, e.2, rfl⟩
    · have e1 : rw_spl N q1 q2 r (k + 1) st = rw_spl N q1 q2 r k st := by
        show (if st < N ∧ st_in k st = true then _ else _) = _
        rw [if_neg e]
      rw [e1]
      refine ⟨h1, fun u hu hs hin => ?_, ?_⟩
      · by_cases eu : u = k
        · rw [eu] at hin
          exact absurd ⟨hs, hin⟩ e
        · exact h2 u (by omega) hs hin
      · rcases h3 with h3 | ⟨u, h4, h5⟩
        · exact Or.inl h3
        · exact Or.inr ⟨u, by omega, h5⟩
theorem rw_spls_p {W : ld_W} {o p b : Nat} {r : Nat → Nat} : ∀ k st, st < ld_N W → dp_bt (rw_spls W o p b r k st) (r st) ∧ (∀ c u, c < k → sb_in c b = true → u < ld_N W → st_in u st = true → dp_bt (rw_spls W o p b r k st) (dp_both (dp_D W o (ld_fi W p) u c) (dp_D W o (ld_se W p) (st - u) (b - c)))) ∧ (rw_spls W o p b r k st = r st ∨ ∃ c u, c < k ∧ sb_in c b = true ∧ u < ld_N W ∧ st_in u st = true ∧ rw_spls W o p b r k st = dp_both (dp_D W o (ld_fi W p) u c) (dp_D W o (ld_se W p) (st - u) (b - c)))
  | 0, st, _ => ⟨dp_bt_refl _, fun c u hu => absurd hu (Nat.not_lt_zero _), Or.inl rfl⟩
  | k + 1, st, hst => by
    obtain ⟨h1, h2, h3⟩ := rw_spls_p (W := W) (o := o) (p := p) (b := b) (r := r) k st hst
    by_cases e : sb_in k b = true
    · have e1 : rw_spls W o p b r (k + 1) = rw_spl (ld_N W) (fun st => dp_D W o (ld_fi W p) st k) (fun st => dp_D W o (ld_se W p) st (b - k)) (rw_spls W o p b r k) (ld_N W) := by
        show (if sb_in k b = true then _ else _) = _
        rw [if_pos e]
      rw [e1]
      obtain ⟨g1, g2, g3⟩ := rw_spl_p (N := ld_N W) (q1 := fun st => dp_D W o (ld_fi W p) st k) (q2 := fun st => dp_D W o (ld_se W p) st (b - k)) (r := rw_spls W o p b r k) (ld_N W) st
      refine ⟨dp_bt_trans g1 h1, fun c u hc hs hu hin => ?_, ?_⟩
      · by_cases eu : c = k
        · rw [eu]
          exact g2 u hu hst hin
        · exact dp_bt_trans g1 (h2 c u (by omega) hs hu hin)
      · rcases g3 with z | ⟨u, z1, z2, z3, z4⟩
        · rw [z]
          rcases h3 with h3 | ⟨c, u, h4, h5⟩
          · exact Or.inl h3
          · exact Or.inr ⟨c, u, by omega, h5⟩
        · exact Or.inr ⟨k, u, by omega, e, z1, z3, z4⟩
    · have e1 : rw_spls W o p b r (k + 1) = rw_spls W o p b r k := by
        show (if sb_in k b = true then _ else _) = _
        rw [if_neg e]
      rw [e1]
      refine ⟨h1, fun c u hc hs hu hin => ?_, ?_⟩
      · by_cases eu : c = k
        · rw [eu] at hs
          exact absurd hs e
        · exact h2 c u (by omega) hs hu hin
      · rcases h3 with h3 | ⟨c, u, h4, h5⟩
        · exact Or.inl h3
        · exact Or.inr ⟨c, u, by omega, h5⟩
theorem rw_bargs_p {W : ld_W} {o p b : Nat} {r : Nat → Nat} : ∀ k st, st < ld_N W → dp_bt (rw_bargs W o p b r k st) (r st) ∧ (∀ j, j < k → b / 2 ^ j % 2 = 1 → dp_bt (rw_bargs W o p b r k st) (ld_bv W (3 + j) (fun t => dp_D W o p t (b - 2 ^ j)) st)) ∧ (rw_bargs W o p b r k st = r st ∨ ∃ j, j < k ∧ b / 2 ^ j % 2 = 1 ∧ rw_bargs W o p b r k st = ld_bv W (3 + j) (fun t => dp_D W o p t (b - 2 ^ j)) st)
  | 0, st, _ => ⟨dp_bt_refl _, fun c hu => absurd hu (Nat.not_lt_zero _), Or.inl rfl⟩
  | k + 1, st, hst => by
    obtain ⟨h1, h2, h3⟩ := rw_bargs_p (W := W) (o := o) (p := p) (b := b) (r := r) k st hst
    by_cases e : b / 2 ^ k % 2 = 1
    · have e1 : rw_bargs W o p b r (k + 1) st = dp_lst (rw_bargs W o p b r k st) (ld_bv W (3 + k) (fun t => dp_D W o p t (b - 2 ^ k)) st) := by
        have z : rw_bargs W o p b r (k + 1) = if b / 2 ^ k % 2 = 1 then rw_barg W (3 + k) (fun st => dp_D W o p st (b - 2 ^ k)) (rw_bargs W o p b r k) else rw_bargs W o p b r k := rfl
        rw [z, if_pos e]
        unfold rw_barg
        rw [if_pos hst]
      rw [e1]
      refine ⟨dp_bt_trans (dp_lst_l _ _) h1, fun j hj hbit => ?_, ?_⟩
      · by_cases eu : j = k
        · rw [eu]
          exact dp_lst_r _ _
        · exact dp_bt_trans (dp_lst_l _ _) (h2 j (by omega) hbit)
      · rcases dp_lst_or (rw_bargs W o p b r k st) (ld_bv W (3 + k) (fun t => dp_D W o p t (b - 2 ^ k)) st) with z | z
        · rw [z]
          rcases h3 with h3 | ⟨j, h4, h5⟩
          · exact Or.inl h3
          · exact Or.inr ⟨j, by omega, h5⟩
        · rw [z]
          exact Or.inr ⟨k, by omega, e, rfl⟩
    · have e1 : rw_bargs W o p b r (k + 1) st = rw_bargs W o p b r k st := by
        have z : rw_bargs W o p b r (k + 1) = if b / 2 ^ k % 2 = 1 then rw_barg W (3 + k) (fun st => dp_D W o p st (b - 2 ^ k)) (rw_bargs W o p b r k) else rw_bargs W o p b r k := rfl
        rw [z, if_neg e]
      rw [e1]
      refine ⟨h1, fun j hj hbit => ?_, ?_⟩
      · by_cases eu : j = k
        · rw [eu] at hbit
          exact absurd hbit e
        · exact h2 j (by omega) hbit
      · rcases h3 with h3 | ⟨j, h4, h5⟩
        · exact Or.inl h3
        · exact Or.inr ⟨j, by omega, h5⟩
/-- the least by the steps of the POINT's own kind -/
def ow_I (W : ld_W) (o p b : Nat) (r : Nat → Nat) : Prop := (∀ st, st < ld_N W → r st ≠ 0 → ∃ m, m ∈ mv_own W p st b ∧ dp_by W o m = r st) ∧ (∀ st, st < ld_N W → ∀ m, m ∈ mv_own W p st b → dp_bt (r st) (dp_by W o m)) ∧ (∀ st, st < ld_N W → r st ≤ 92161)
theorem ow_ro {W : ld_W} {o p b : Nat} {r : Nat → Nat} (h : ld_ok W) (hp : p < ld_p W) (hb : b < 8) (hr : ow_I W o p b r) : ro_I W o p b (rw_bargs W o p b r (ld_b W)) := by
  refine ⟨fun st hst hne => ?_, fun st hst m hm => ?_, fun st hst => ?_⟩
  · obtain ⟨h1, h2, h3⟩ := rw_bargs_p (W := W) (o := o) (p := p) (b := b) (r := r) (ld_b W) st hst
    rcases h3 with h3 | ⟨j, h4, h5, h6⟩
    · rw [h3] at hne ⊢
      obtain ⟨m, hm, hby⟩ := hr.1 st hst hne
      have := dp_by_Sh h hp hst hb (mv_all_mem.mpr (Or.inl hm)) (by rw [hby]; exact hne)
      rw [hby] at this
      exact this
    · rw [h6] at hne ⊢
      obtain ⟨g1, g2⟩ := mv_barg_bv (W := W) (o := o) (p := p) (s := st) h5
      obtain ⟨m, hm⟩ := g2 hne
      have hby := g1 m hm
      have := dp_by_Sh h hp hst hb (o := o) (mv_all_mem.mpr (Or.inr (Or.inr ⟨j, h4, hm⟩))) (by rw [hby]; exact hne)
      rw [hby] at this
      exact this
  · obtain ⟨h1, h2, h3⟩ := rw_bargs_p (W := W) (o := o) (p := p) (b := b) (r := r) (ld_b W) st hst
    rcases hm with hm | ⟨k, hk, hm⟩
    · exact dp_bt_trans h1 (hr.2.1 st hst m hm)
    · have hbit := (mv_barg_of hm).1
      obtain ⟨g1, g2⟩ := mv_barg_bv (W := W) (o := o) (p := p) (s := st) hbit
      rw [g1 m hm]
      exact h2 k hk hbit
  · have := rw_bargs_le (o := o) h hp hb hr.2.2 (ld_b W) (Nat.le_refl _) st hst
    omega
theorem cl_kd {W : ld_W} {L p : Nat} {s : gc_St} (h : cl_law W L s) (hp : p < ld_p W) : gc_I s (gc_rS L 13) p = nI (ld_kd W p) := (h.2.2.2.2 p hp).1
theorem cl_fi {W : ld_W} {L p : Nat} {s : gc_St} (h : cl_law W L s) (hp : p < ld_p W) : gc_I s (gc_rS L 14) p = ld_fI W p := (h.2.2.2.2 p hp).2.1
theorem cl_se {W : ld_W} {L p : Nat} {s : gc_St} (h : cl_law W L s) (hp : p < ld_p W) : gc_I s (gc_rS L 15) p = ld_sI W p := (h.2.2.2.2 p hp).2.2.1
theorem cl_lo {W : ld_W} {L p : Nat} {s : gc_St} (h : cl_law W L s) (hp : p < ld_p W) : gc_I s (gc_rS L 16) p = nI (ld_lo W p) := (h.2.2.2.2 p hp).2.2.2
theorem cl_ro {W : ld_W} {L c : Nat} {s : gc_St} (h : cl_law W L s) (hc : c < ld_c W) : gc_I s (gc_rS L 12) c = nI (ld_ro W c) := (h.2.2.2.1 c hc).2
theorem cl_wo {W : ld_W} {L c : Nat} {s : gc_St} (h : cl_law W L s) (hc : c < ld_c W) : gc_I s (gc_rS L 11) c = nI (ld_wo W c) := (h.2.2.2.1 c hc).1
theorem cl_pr {W : ld_W} {L g : Nat} {s : gc_St} (h : cl_law W L s) (hg : g < ld_g W) : gc_I s (gc_rS L 7) g = nI (ld_pr W g) := h.2.1 g hg
theorem cl_ot {W : ld_W} {L k : Nat} {s : gc_St} (h : cl_law W L s) (hk : ld_dl W k) : gc_I s (gc_rS L 10) k = ld_oI (ld_ot W k) := (h.2.2.1 k hk).2.2
theorem cl_tk {W : ld_W} {L k : Nat} {s : gc_St} (h : cl_law W L s) (hk : ld_dl W k) : gc_I s (gc_rS L 8) k = nI (ld_tk W k) := (h.2.2.1 k hk).1
theorem cl_gv {W : ld_W} {L k : Nat} {s : gc_St} (h : cl_law W L s) (hk : ld_dl W k) : gc_I s (gc_rS L 9) k = nI (ld_gv W k) := (h.2.2.1 k hk).2.1
theorem st_fit0 : ∀ a, a < 256 → st_fit a 0 = true := by decide +kernel
section Ok
variable {P : gc_Pr} {d : Nat} {s : gc_St} {Q : gc_TQ} {W : ld_W} {L a o p b : Nat} {r : Nat → Nat}
theorem sp_byOaths (hP : gc_Cl P) (hm : gc_Mo P) (hd : 2 ≤ d) (hC : cl_C W L s) (ha : 67 ≤ a) (hg : gc_gk s a = (0, 256)) (ho : o < 8) (hp : p < ld_p W) (hb : b < 8) (hr : ro_I W o p b r)
    (h : ∀ r', (∀ st, st < ld_N W → r' st = dp_D W o p st b) → Q none (rs_w s a r')) : gc_T P d 0 0 16 0 [.ref 10, .ref a, .int (nI o), gc_u, gc_u, gc_u] [] (rs_w s a r) Q := by
  have hok := hC.2.2.2.1
  have hN := ld_N_le hok
  have ho3 := hok.1.2.1
  have hlw : ∀ r, gc_lw (rs_w s a r) = L := fun _ => hC.2.1
  have hF : ∀ r, gc_F (rs_w s a r) L 1 = nI (ld_o W) := fun r => (cl_C_rs ha hC r).2.2.1.1.2.1
  refine b_X0_byOaths_0 hP hm ?_
  have key : ∀ m R, R + m = 257 → ∀ (rc : Nat → Nat) (c : Bool) (l5 : Value), ro_I W o p b rc → (c = false → ∀ st, st < ld_N W → rc st = dp_D W o p st b) → ((∀ st, st < ld_N W → rc st = dp_D W o p st b) ∨ dp_ct (fun st => !decide (rc st = dp_D W o p st b)) (ld_N W) + R ≤ 256) → gc_T P d 0 0 16 5 [.ref 10, .ref a, .int (nI o), .int (cb c), .int (nI R), l5] [] (rs_w s a rc) Q := by
    intro m
    induction m with
    | zero =>
      intro R hR rc c l5 h1 h2 h3
      refine b_X0_byOaths_5 hP hm (pk_lt 256 R (fun z => ?_) (fun z => by omega))
      rcases h3 with h3 | h3
      · exact h rc h3
      · omega
    | succ m ih =>
      intro R hR rc c l5 h1 h2 h3
      refine b_X0_byOaths_5 hP hm (pk_lt 256 R (fun z => by omega) (fun z => ⟨fun y => ?_, fun y => ?_⟩))
      · refine h rc (h2 ?_)
        cases c
        · rfl
        · exact absurd y (by decide)
      · have inner : ∀ n k, k + n = ld_o W → ∀ (rd : Nat → Nat) (c' : Bool), ro_I W o p b rd → (∀ st, st < ld_N W → dp_bt (rd st) (rc st)) → (∀ k', k' < k → o / 2 ^ k' % 2 = 1 → ∀ st, st < ld_N W → ∀ t, dp_ch st (ld_tk W k') (ld_gv W k') = some t → dp_bt (rd st) (dp_one (rc t))) → (c' = false → rd = rc) → gc_T P d 0 0 16 22 [.ref 10, .ref a, .int (nI o), .int (cb c'), .int (nI R), .int (nI k)] [] (rs_w s a rd) Q := by
          intro n
          induction n with
          | zero =>
            intro k hk rd c' g1 g2 g3 g4
            refine b_X0_byOaths_22 hP hm ⟨by rw [hlw]; exact cl_io hC.1, ?_⟩
            rw [hlw, hF]
            refine pk_le (ld_o W) k (fun _ => ?_) (fun z => by omega)
            rw [nI_1]
            refine ih (R + 1) (by omega) rd c' _ g1 (fun z => ?_) ?_
            · have e := g4 z
              rw [e] at g3 ⊢
              exact dp_row hok hp hb h1.1 h1.2.1 (fun st hst k' hk' hbit t ht => g3 k' (by omega) hbit st hst t ht)
            · by_cases hfin : ∀ st, st < ld_N W → rc st = dp_D W o p st b
              · refine Or.inl fun st hst => ?_
                have := g2 st hst
                rw [hfin st hst] at this
                exact dp_bt_eq this (fun z => dp_D_le (g1.1 st hst z))
              · have hex : ∃ st, st < ld_N W ∧ rc st ≠ dp_D W o p st b := by
                  by_cases e : ∃ st, st < ld_N W ∧ rc st ≠ dp_D W o p st b
                  · exact e
                  · exact absurd (fun st hst => by
                      by_cases e2 : rc st = dp_D W o p st b
                      · exact e2
                      · exact absurd ⟨st, hst, e2⟩ e) hfin
                have := dp_round hok hp hb g2 h1.1 g1.1 h1.2.1 (fun st hst k' hk' hbit t ht => g3 k' (by omega) hbit st hst t ht) hex
                rcases h3 with h3 | h3
                · exact absurd h3 hfin
                · exact Or.inr (by omega)
          | succ n ih2 =>
            intro k hk rd c' g1 g2 g3 g4
            refine b_X0_byOaths_22 hP hm ⟨by rw [hlw]; exact cl_io hC.1, ?_⟩
            rw [hlw, hF]
            refine pk_le (ld_o W) k (fun z => by omega) (fun z => ⟨by omega, ?_⟩)
            refine sp_hasBit hP hm (by omega) (by omega) ?_
            by_cases hbit : o / 2 ^ k % 2 = 1
            · rw [decide_eq_true hbit]
              refine ⟨fun y => absurd y (by decide), fun _ => ⟨by omega, ?_⟩⟩
              refine sp_byOath hP hm (by omega) hC ha hg (by omega) hbit g1 fun r' cc f1 f2 f3 f4 => ?_
              have n2 : ∀ st, st < ld_N W → dp_bt (r' st) (rc st) := fun st hst => dp_bt_trans (f2 st hst) (g2 st hst)
              have n3 : ∀ k', k' < k + 1 → o / 2 ^ k' % 2 = 1 → ∀ st, st < ld_N W → ∀ t, dp_ch st (ld_tk W k') (ld_gv W k') = some t → dp_bt (r' st) (dp_one (rc t)) := by
                intro k' hk' hbit' st hst t ht
                by_cases e : k' = k
                · subst e
                  exact dp_bt_trans (f3 st hst t ht) (dp_one_bt (g2 t (dp_ch_N hok hst (hok.2.1 k' (Or.inl (by omega))).2.1 ht)))
                · exact dp_bt_trans (f2 st hst) (g3 k' (by omega) hbit' st hst t ht)
              cases cc with
              | false =>
                refine ⟨fun _ => b_X0_byOaths_55 hP hm ?_, fun y => absurd rfl y⟩
                rw [nI_1]
                exact ih2 (k + 1) (by omega) r' c' f1 n2 n3 (fun z => (f4 rfl).trans (g4 z))
              | true =>
                refine ⟨fun y => absurd y (by decide), fun _ => b_X0_byOaths_55 hP hm ?_⟩
                rw [nI_1]
                exact ih2 (k + 1) (by omega) r' true f1 n2 n3 (fun z => absurd z (by decide))
            · rw [decide_eq_false hbit]
              refine ⟨fun _ => b_X0_byOaths_55 hP hm ?_, fun y => absurd rfl y⟩
              rw [nI_1]
              refine ih2 (k + 1) (by omega) rd c' g1 g2 (fun k' hk' hbit' => ?_) g4
              by_cases e : k' = k
              · subst e
                exact absurd hbit' hbit
              · exact g3 k' (by omega) hbit'
        exact inner (ld_o W) 0 (by omega) rc false h1 (fun st _ => dp_bt_refl _) (fun k' hk' => absurd hk' (Nat.not_lt_zero _)) (fun _ => rfl)
  have hct := dp_ct_le (fun st => !decide (r st = dp_D W o p st b)) (ld_N W)
  exact key 257 0 rfl r true gc_u hr (fun z => absurd z (by decide)) (Or.inr (by omega))
theorem rw_spls_le (h : ld_ok W) (hp : p < ld_p W) (hb : b < 8) (hk : ld_kd W p = 5) (hr : ∀ st, st < ld_N W → r st ≤ 92161) : ∀ c, c ≤ 8 → ∀ st, st < ld_N W → rw_spls W o p b r c st ≤ 92161
  | 0, _, st, hs => hr st hs
  | c + 1, hc, st, hs => by
    have ih := rw_spls_le h hp hb hk hr c (by omega)
    have hpp := ld_part h hp (by omega)
    have hse := hpp.2.2.1 (by omega)
    unfold rw_spls
    split
    · exact rw_spl_le (K := 92160) (fun st z => dp_D_max h (by omega) z (by omega)) (fun st z => dp_D_max h (by omega) z (by omega)) ih (ld_N W) st (Nat.le_refl _) hs
    · exact ih st hs
theorem sp_bySplits (hP : gc_Cl P) (hm : gc_Mo P) (hd : 3 ≤ d) (hC : cl_C W L s) (ha : 67 ≤ a) (hg : gc_gk s a = (0, 256)) (ho : o < 8) (hp : p < ld_p W) (hb : b < 8) (hk : ld_kd W p = 5)
    (hv : ∀ c, c < 8 → sb_in c b = true → cl_val W s a o (ld_fi W p) c ∧ cl_val W s a o (ld_se W p) c) (hr : ∀ st, st < ld_N W → r st ≤ 92161) (h : Q none (rs_w s a (rw_spls W o p b r (b + 1)))) :
    gc_T P d 0 0 12 0 [.ref 10, .ref a, .int (nI o), .int (nI p), .int (nI b), gc_u, gc_u, gc_u] [] (rs_w s a r) Q := by
  have hok := hC.2.2.2.1
  have hp24 := hok.1.2.2.2.2
  have hlw : ∀ r, gc_lw (rs_w s a r) = L := fun _ => hC.2.1
  have hpp := ld_part hok hp (by omega)
  have hse := hpp.2.2.1 (by omega)
  have hfI : ∀ r, gc_I (rs_w s a r) (gc_rS L 14) p = nI (ld_fi W p) := fun r => by
    rw [cl_fi (cl_C_rs ha hC r).2.2.1 hp]
    unfold ld_fI
    rw [if_neg (by omega)]
  have hsI : ∀ r, gc_I (rs_w s a r) (gc_rS L 15) p = nI (ld_se W p) := fun r => by
    rw [cl_se (cl_C_rs ha hC r).2.2.1 hp]
    unfold ld_sI
    rw [if_pos (by omega)]
  have hle := rw_spls_le (o := o) hok hp hb hk hr
  refine b_X0_bySplits_0 hP hm ?_
  have key : ∀ m c, c + m = b + 1 → ∀ l6 l7 : Value, gc_T P d 0 0 12 3 [.ref 10, .ref a, .int (nI o), .int (nI p), .int (nI b), .int (nI c), l6, l7] [] (rs_w s a (rw_spls W o p b r c)) Q := by
    intro m
    induction m with
    | zero =>
      intro c hc l6 l7
      refine b_X0_bySplits_3 hP hm (pk_lt b c (fun _ => ?_) (fun z => by omega))
      rw [show c = b + 1 by omega]
      exact h
    | succ m ih =>
      intro c hc l6 l7
      have hn := ih (c + 1) (by omega)
      refine b_X0_bySplits_3 hP hm (pk_lt b c (fun z => by omega) (fun z => ⟨by omega, ?_⟩))
      refine sp_isSubset hP hm (by omega) hb ?_
      by_cases hin : sb_in c b = true
      · rw [hin]
        have hbc := sb_le b hb c (by omega) hin
        refine ⟨fun y => absurd y (by decide), fun _ => ⟨by rw [hlw]; exact cl_io hC.1, vp_in_nI (by omega) (by omega), by omega, ?_⟩⟩
        rw [hlw, nI_clamp (by omega), hfI, pk_sub hbc.1]
        obtain ⟨a1, v1, v2, v3, v4, v5⟩ := (hv c (by omega) hin).1
        obtain ⟨a2, w1, w2, w3, w4, w5⟩ := (hv (b - c) (by omega) hbc.2).2
        have v1' : gc_I (rs_w s a (rw_spls W o p b r c)) 24 (cl_num o (ld_fi W p) c) = gc_F s 10 1 := by
          rw [rs_In s _ (by omega)]
          exact v1
        have w1' : gc_I (rs_w s a (rw_spls W o p b r c)) 24 (cl_num o (ld_se W p) (b - c)) = gc_F s 10 1 := by
          rw [rs_In s _ (by omega)]
          exact w1
        refine sp_rowOf hP hm (by omega) ho (by omega) (by omega) v1' v2 ⟨by rw [hlw]; exact cl_io hC.1, vp_in_nI (by omega) (by omega), by omega, ?_⟩
        rw [hlw, hsI]
        refine sp_rowOf hP hm (by omega) ho (by omega) (by omega) w1' w2 ⟨by omega, ?_⟩
        refine sp_bySplit hP hm (by omega) hC ha hg v3 v4 w3 w4 (K := 92160) (by omega) (fun st hst => ⟨v5 st hst, dp_D_max hok (by omega) hst (by omega)⟩) (fun st hst => ⟨w5 st hst, dp_D_max hok (by omega) hst (by omega)⟩) (hle c (by omega)) ?_
        refine b_X0_bySplits_68 hP hm ?_
        rw [nI_1]
        rw [show rw_spls W o p b r (c + 1) = rw_spl (ld_N W) (fun st => dp_D W o (ld_fi W p) st c) (fun st => dp_D W o (ld_se W p) st (b - c)) (rw_spls W o p b r c) (ld_N W) by
          show (if sb_in c b = true then _ else _) = _
          rw [if_pos hin]] at hn
        exact hn _ _
      · rw [show sb_in c b = false by simpa using hin]
        refine ⟨fun _ => b_X0_bySplits_68 hP hm ?_, fun y => absurd rfl y⟩
        rw [nI_1]
        rw [show rw_spls W o p b r (c + 1) = rw_spls W o p b r c by
          show (if sb_in c b = true then _ else _) = _
          rw [if_neg hin]] at hn
        exact hn _ _
  exact key (b + 1) 0 (by omega) _ _
end Ok
