/-! One row at a time; THE SHOWING, how many steps it has. -/
theorem dp_ld_bt {d e : Nat → Nat → Nat → Nat} {ls : List (Nat × Nat × Nat)} (hl : ls.length ≤ 2) (h : ∀ l, l ∈ ls → dp_bt (d l.1 l.2.1 l.2.2) (e l.1 l.2.1 l.2.2)) : dp_bt (dp_ld d ls) (dp_ld e ls) := by
  intro hne
  have h1 := dp_ld_pos hl hne
  obtain ⟨n, hn⟩ : ∃ n, dp_ld e ls = n + 1 := ⟨dp_ld e ls - 1, by omega⟩
  rw [hn]
  refine dp_ld_le fun l z => ?_
  have h2 := h1 l z
  have h3 := h l z h2.1
  exact ⟨h3.1, by omega⟩
section Dr
variable {W : ld_W} {o : Nat}
theorem dp_row0 (h : ld_ok W) {p b : Nat} (hp : p < ld_p W) (hb : b < 8) {r : Nat → Nat} (hs : ∀ s, s < ld_N W → r s ≠ 0 → dp_Sh W o (r s) p s b)
    (hc : ∀ s, s < ld_N W → ∀ m, m ∈ mv_all W o p s b → dp_bt (r s) (dp_ld (dp_mix W o p b r) m.2.1)) : ∀ s, s < ld_N W → r s = dp_D W o p s b := by
  have hbt : ∀ p' s' b', s' < ld_N W → dp_bt (dp_D W o p' s' b') (dp_mix W o p b r p' s' b') := by
    intro p' s' b' hs'
    unfold dp_mix
    split
    · rename_i e
      rw [e.1, e.2]
      exact fun z => dp_D_le (hs s' hs' z)
    · exact dp_bt_refl _
  have key := dp_uniq (W := W) (o := o) (X := fun p' s' b' => p' < ld_p W ∧ s' < ld_N W ∧ b' < 8) (d := dp_mix W o p b r) ?_ ?_ ?_
  · intro s hs'
    have := key p s b ⟨hp, hs', hb⟩
    unfold dp_mix at this
    rw [if_pos ⟨rfl, rfl⟩] at this
    exact this
  · rintro p' s' b' ⟨h1, h2, h3⟩ m hm l hl
    have := (mv_ld h h1 h2 h3 hm).2 l hl
    exact ⟨by omega, this.2.2.1, this.2.2.2.1⟩
  · rintro p' s' b' ⟨h1, h2, h3⟩ hne
    unfold dp_mix at hne ⊢
    split
    · rename_i e
      rw [if_pos e] at hne
      rw [e.1, e.2]
      exact hs s' h2 hne
    · rename_i e
      rw [if_neg e] at hne
      exact dp_D_sh hne
  · rintro p' s' b' ⟨h1, h2, h3⟩ m hm
    have hl := mv_ld h h1 h2 h3 hm
    by_cases e : p' = p ∧ b' = b
    · have e2 : dp_mix W o p b r p' s' b' = r s' := by unfold dp_mix; rw [if_pos e]
      rw [e2]
      rw [e.1, e.2] at hm
      exact hc s' h2 m hm
    · have e2 : dp_mix W o p b r p' s' b' = dp_D W o p' s' b' := by unfold dp_mix; rw [if_neg e]
      rw [e2]
      exact dp_bt_trans (dp_D_by h h1 h2 h3 hm) (dp_ld_bt hl.1 fun l z => hbt _ _ _ (hl.2 l z).2.2.1)
/-- the steps of the POINT's own kind, and BARGAINS: they lead elsewhere -/
def mv_base (W : ld_W) (p s b : Nat) (m : mv_T) : Prop := m ∈ mv_own W p s b ∨ ∃ k, k < ld_b W ∧ mv_barg W p s b k = some m
theorem mv_base_ne (h : ld_ok W) {p s b : Nat} (hp : p < ld_p W) (hs : s < ld_N W) (hb : b < 8) {m : mv_T} (hm : mv_base W p s b m) : ∀ l, l ∈ m.2.1 → ¬ (l.1 = p ∧ l.2.2 = b) := by
  intro l hl
  rcases hm with hm | ⟨k, hk, hm⟩
  · obtain ⟨⟨h3, h4⟩, _⟩ := (mv_own_ld h hp hs hb hm).2 l hl
    obtain ⟨g1, g2, g3, _⟩ := ld_part h hp h3
    rcases h4 with e | ⟨e0, e⟩
    · omega
    · have := g3 e0
      omega
  · have hb3 := h.1.2.2.1
    obtain ⟨hbit, t, ht, ⟨_, rfl⟩ | ⟨x, t2, hx, ht2, rfl⟩⟩ := mv_barg_of hm
    · have hbb := sb_bit b hb k (by omega) hbit
      simp only [List.mem_singleton] at hl
      subst hl
      exact fun e => hbb.2.2 e.2
    · have hbb := sb_bit b hb k (by omega) hbit
      simp only [List.mem_cons, List.not_mem_nil, or_false] at hl
      rcases hl with rfl | rfl
      · exact fun e => hbb.2.2 e.2
      · exact fun e => hbb.2.2 e.2
theorem dp_row (h : ld_ok W) {p b : Nat} (hp : p < ld_p W) (hb : b < 8) {r : Nat → Nat} (hs : ∀ s, s < ld_N W → r s ≠ 0 → dp_Sh W o (r s) p s b)
    (hbase : ∀ s, s < ld_N W → ∀ m, mv_base W p s b m → dp_bt (r s) (dp_by W o m))
    (ho : ∀ s, s < ld_N W → ∀ k, k < ld_o W → o / 2 ^ k % 2 = 1 → ∀ t, dp_ch s (ld_tk W k) (ld_gv W k) = some t → dp_bt (r s) (dp_one (r t))) : ∀ s, s < ld_N W → r s = dp_D W o p s b := by
  refine dp_row0 h hp hb hs fun s hs' m hm => ?_
  have base : mv_base W p s b m → dp_bt (r s) (dp_ld (dp_mix W o p b r) m.2.1) := by
    intro hm'
    have := hbase s hs' m hm'
    rw [show dp_ld (dp_mix W o p b r) m.2.1 = dp_by W o m from dp_ld_congr fun l hl => by
      unfold dp_mix
      rw [if_neg (mv_base_ne h hp hs' hb hm' l hl)]]
    exact this
  rcases mv_all_mem.mp hm with hm | ⟨k, hk, hm⟩ | hm
  · exact base (Or.inl hm)
  · obtain ⟨hbit, t, ht, rfl⟩ := mv_oath_of hm
    have := ho s hs' k hk hbit t ht
    show dp_bt (r s) (dp_one (dp_mix W o p b r p t b))
    unfold dp_mix
    rw [if_pos ⟨rfl, rfl⟩]
    exact this
  · exact base (Or.inr hm)
/-- one round of OATHS: one more is right, if any was not -/
theorem dp_round (h : ld_ok W) {p b : Nat} (hp : p < ld_p W) (hb : b < 8) {r r' : Nat → Nat} (hbt : ∀ s, s < ld_N W → dp_bt (r' s) (r s))
    (hs : ∀ s, s < ld_N W → r s ≠ 0 → dp_Sh W o (r s) p s b) (hs' : ∀ s, s < ld_N W → r' s ≠ 0 → dp_Sh W o (r' s) p s b)
    (hbase : ∀ s, s < ld_N W → ∀ m, mv_base W p s b m → dp_bt (r s) (dp_by W o m))
    (ho : ∀ s, s < ld_N W → ∀ k, k < ld_o W → o / 2 ^ k % 2 = 1 → ∀ t, dp_ch s (ld_tk W k) (ld_gv W k) = some t → dp_bt (r' s) (dp_one (r t)))
    (hex : ∃ s, s < ld_N W ∧ r s ≠ dp_D W o p s b) : dp_ct (fun s => !decide (r' s = dp_D W o p s b)) (ld_N W) < dp_ct (fun s => !decide (r s = dp_D W o p s b)) (ld_N W) := by
  refine dp_pass (D := fun s => dp_D W o p s b) hbt (fun s z => fun y => dp_D_le (hs s z y)) (fun s z => fun y => dp_D_le (hs' s z y)) ?_ hex
  intro s z hD hne
  obtain ⟨m, hm, hby⟩ := dp_D_at h hp z hb hD
  have base : mv_base W p s b m → r s = dp_D W o p s b := by
    intro hm'
    have := hbase s z m hm'
    rw [hby] at this
    exact dp_bt_eq this (fun y => dp_D_le (hs s z y))
  rcases mv_all_mem.mp hm with hm | ⟨k, hk, hm⟩ | hm
  · exact absurd (base (Or.inl hm)) hne
  · obtain ⟨hbit, t, ht, rfl⟩ := mv_oath_of hm
    have htN := dp_ch_N h z (h.2.1 k (Or.inl hk)).2.1 ht
    have hby : dp_one (dp_D W o p t b) = dp_D W o p s b := hby
    refine ⟨[t], fun j hj => ?_, fun hj => ?_⟩
    · simp only [List.mem_singleton] at hj
      subst hj
      refine ⟨htN, ?_⟩
      unfold dp_one at hby
      split at hby
      · exact absurd hby.symm hD
      · show dp_D W o p j b < dp_D W o p s b
        omega
    · have h1 := ho s z k hk hbit t ht
      rw [hj t (by simp), hby] at h1
      exact dp_bt_eq h1 (fun y => dp_D_le (hs' s z y))
  · exact absurd (base (Or.inr hm)) hne
/-- the step of THE SHOWING -/
noncomputable def mv_bi (W : ld_W) (o p s b : Nat) : Nat := (mv_all W o p s b).findIdx (fun m => Nat.beq (dp_by W o m) (dp_D W o p s b))
noncomputable def mv_best (W : ld_W) (o p s b : Nat) : mv_T := (mv_all W o p s b).getD (mv_bi W o p s b) (0, [], 0, 0)
theorem mv_bi_lt (h : ld_ok W) {p s b : Nat} (hp : p < ld_p W) (hs : s < ld_N W) (hb : b < 8) (hD : dp_D W o p s b ≠ 0) : mv_bi W o p s b < (mv_all W o p s b).length := by
  obtain ⟨m, hm, hby⟩ := dp_D_at h hp hs hb hD
  exact List.findIdx_lt_length_of_exists ⟨m, hm, by rw [hby]; exact Nat.beq_refl _⟩
theorem mv_best_at (h : ld_ok W) {p s b : Nat} (hp : p < ld_p W) (hs : s < ld_N W) (hb : b < 8) (hD : dp_D W o p s b ≠ 0) : (mv_all W o p s b)[mv_bi W o p s b]? = some (mv_best W o p s b) ∧ mv_best W o p s b ∈ mv_all W o p s b ∧ dp_by W o (mv_best W o p s b) = dp_D W o p s b := by
  have hlt := mv_bi_lt h hp hs hb hD
  have h1 : (mv_all W o p s b)[mv_bi W o p s b]? = some (mv_all W o p s b)[mv_bi W o p s b] := List.getElem?_eq_getElem hlt
  have h2 : mv_best W o p s b = (mv_all W o p s b)[mv_bi W o p s b] := by
    unfold mv_best
    rw [List.getD_eq_getElem?_getD, h1]
    rfl
  refine ⟨by rw [h2]; exact h1, by rw [h2]; exact List.getElem_mem hlt, ?_⟩
  rw [h2]
  have := List.findIdx_getElem (xs := mv_all W o p s b) (p := fun m => Nat.beq (dp_by W o m) (dp_D W o p s b)) (w := hlt)
  exact Nat.eq_of_beq_eq_true this
theorem mv_bi_min {p s b i : Nat} {m : mv_T} (hi : i < mv_bi W o p s b) (hm : (mv_all W o p s b)[i]? = some m) : dp_by W o m ≠ dp_D W o p s b := by
  have h1 := List.not_of_lt_findIdx (xs := mv_all W o p s b) (p := fun m => Nat.beq (dp_by W o m) (dp_D W o p s b)) hi
  intro e
  obtain ⟨hlt, hget⟩ := List.getElem?_eq_some_iff.mp hm
  rw [hget, e, Nat.beq_refl] at h1
  exact absurd h1 (by decide)
def dp_sum (ls : List (Nat × Nat × Nat)) (f : Nat → Nat → Nat → Nat) : Nat := match ls with
  | [] => 0
  | l :: r => f l.1 l.2.1 l.2.2 + dp_sum r f
theorem dp_sum_congr {f g : Nat → Nat → Nat → Nat} : ∀ {ls : List (Nat × Nat × Nat)}, (∀ l, l ∈ ls → f l.1 l.2.1 l.2.2 = g l.1 l.2.1 l.2.2) → dp_sum ls f = dp_sum ls g
  | [], _ => rfl
  | l :: r, h => by
    show f l.1 l.2.1 l.2.2 + dp_sum r f = g l.1 l.2.1 l.2.2 + dp_sum r g
    rw [h l (by simp), dp_sum_congr (fun k hk => h k (by simp [hk]))]
noncomputable def dp_sz (W : ld_W) (o : Nat) : Nat → Nat → Nat → Nat → Nat
  | 0, _, _, _ => 0
  | n + 1, p, s, b => 1 + dp_sum (mv_best W o p s b).2.1 (dp_sz W o n)
noncomputable def dp_Sz (W : ld_W) (o p s b : Nat) : Nat := dp_sz W o (dp_D W o p s b) p s b
/-- what the step of THE SHOWING leads to -/
theorem mv_best_ld (h : ld_ok W) {p s b : Nat} (hp : p < ld_p W) (hs : s < ld_N W) (hb : b < 8) (hD : dp_D W o p s b ≠ 0) : ∀ l, l ∈ (mv_best W o p s b).2.1 → l.1 ≤ p ∧ l.1 < ld_p W ∧ l.2.1 < ld_N W ∧ l.2.2 < 8 ∧ sb_in l.2.2 b = true ∧ ld_lo W p ≤ l.1 ∧ dp_D W o l.1 l.2.1 l.2.2 ≠ 0 ∧ dp_D W o l.1 l.2.1 l.2.2 < dp_D W o p s b := by
  obtain ⟨_, hm, hby⟩ := mv_best_at h hp hs hb hD
  intro l hl
  have h1 := mv_ld h hp hs hb hm
  have h2 := h1.2 l hl
  have h3 := dp_ld_pos h1.1 (show dp_ld (dp_D W o) (mv_best W o p s b).2.1 ≠ 0 by show dp_by W o _ ≠ 0; rw [hby]; exact hD) l hl
  have h4 : dp_D W o l.1 l.2.1 l.2.2 < dp_by W o (mv_best W o p s b) := h3.2
  rw [hby] at h4
  exact ⟨h2.2.1, by omega, h2.2.2.1, h2.2.2.2.1, h2.2.2.2.2, h2.1, h3.1, h4⟩
theorem dp_sz_D (h : ld_ok W) : ∀ n p s b, p < ld_p W → s < ld_N W → b < 8 → dp_D W o p s b ≠ 0 → dp_D W o p s b ≤ n → dp_sz W o n p s b = dp_Sz W o p s b := by
  intro n
  induction n using Nat.strongRecOn with
  | ind n ih =>
    intro p s b hp hs hb hD hn
    obtain ⟨n', rfl⟩ : ∃ n', n = n' + 1 := ⟨n - 1, by omega⟩
    obtain ⟨d', hd⟩ : ∃ d', dp_D W o p s b = d' + 1 := ⟨dp_D W o p s b - 1, by omega⟩
    have hl := mv_best_ld h hp hs hb hD
    unfold dp_Sz
    rw [hd]
    show 1 + dp_sum _ _ = 1 + dp_sum _ _
    rw [dp_sum_congr (g := dp_sz W o d') fun l z => ?_]
    obtain ⟨a1, a2, a3, a4, a5, a6, a7, a8⟩ := hl l z
    rw [ih n' (by omega) _ _ _ a2 a3 a4 a7 (by omega), ih d' (by omega) _ _ _ a2 a3 a4 a7 (by omega)]
theorem dp_Sz_eq (h : ld_ok W) {p s b : Nat} (hp : p < ld_p W) (hs : s < ld_N W) (hb : b < 8) (hD : dp_D W o p s b ≠ 0) : dp_Sz W o p s b = 1 + dp_sum (mv_best W o p s b).2.1 (dp_Sz W o) := by
  obtain ⟨d', hd⟩ : ∃ d', dp_D W o p s b = d' + 1 := ⟨dp_D W o p s b - 1, by omega⟩
  have hl := mv_best_ld h hp hs hb hD
  have e : dp_Sz W o p s b = dp_sz W o (d' + 1) p s b := by
    unfold dp_Sz
    rw [hd]
  rw [e]
  show 1 + dp_sum _ _ = 1 + dp_sum _ _
  rw [dp_sum_congr fun l z => ?_]
  obtain ⟨a1, a2, a3, a4, a5, a6, a7, a8⟩ := hl l z
  exact dp_sz_D h d' _ _ _ a2 a3 a4 a7 (by omega)
theorem dp_D_Sz (h : ld_ok W) : ∀ n p s b, p < ld_p W → s < ld_N W → b < 8 → dp_D W o p s b ≤ n → dp_D W o p s b ≤ dp_Sz W o p s b := by
  intro n
  induction n with
  | zero =>
    intro p s b _ _ _ hn
    omega
  | succ n ih =>
    intro p s b hp hs hb hn
    by_cases hD : dp_D W o p s b = 0
    · omega
    · have hl := mv_best_ld h hp hs hb hD
      rw [dp_Sz_eq h hp hs hb hD]
      obtain ⟨_, hm, hby⟩ := mv_best_at h hp hs hb hD
      have hlen := (mv_ld h hp hs hb hm).1
      rw [← hby]
      unfold dp_by
      generalize (mv_best W o p s b).2.1 = ls at hl hlen
      match ls, hl, hlen with
      | [], _, _ => exact Nat.le_refl _
      | [l], hl, _ =>
        obtain ⟨a1, a2, a3, a4, a5, a6, a7, a8⟩ := hl l (by simp)
        have := ih _ _ _ a2 a3 a4 (by omega)
        show dp_one (dp_D W o l.1 l.2.1 l.2.2) ≤ 1 + (dp_Sz W o l.1 l.2.1 l.2.2 + 0)
        unfold dp_one
        rw [if_neg a7]
        omega
      | [l, k], hl, _ =>
        obtain ⟨a1, a2, a3, a4, a5, a6, a7, a8⟩ := hl l (by simp)
        obtain ⟨c1, c2, c3, c4, c5, c6, c7, c8⟩ := hl k (by simp)
        have h1 := ih _ _ _ a2 a3 a4 (by omega)
        have h2 := ih _ _ _ c2 c3 c4 (by omega)
        show dp_both (dp_D W o l.1 l.2.1 l.2.2) (dp_D W o k.1 k.2.1 k.2.2) ≤ 1 + (dp_Sz W o l.1 l.2.1 l.2.2 + (dp_Sz W o k.1 k.2.1 k.2.2 + 0))
        unfold dp_both
        rw [if_neg (by omega)]
        split <;> omega
      | _ :: _ :: _ :: _, _, hlen => simp at hlen
theorem mv_own_two {p s b : Nat} {m : mv_T} (hm : m ∈ mv_own W p s b) {l k : Nat × Nat × Nat} (e : m.2.1 = [l, k]) : l.1 = ld_fi W p ∧ k.1 = ld_se W p ∧ (ld_kd W p = 4 ∨ ld_kd W p = 5) := by
  unfold mv_own at hm
  split at hm
  · split at hm
    · simp only [List.mem_singleton] at hm
      subst hm
      simp at e
    · simp at hm
  · split at hm
    · simp only [List.mem_singleton] at hm
      subst hm
      simp at e
    · simp at hm
  · simp only [List.mem_singleton] at hm
    subst hm
    simp at e
  · simp only [List.mem_cons, List.not_mem_nil, or_false] at hm
    rcases hm with rfl | rfl
    · simp at e
    · simp at e
  · rename_i hk
    simp only [List.mem_singleton] at hm
    subst hm
    simp only [List.cons.injEq, and_true] at e
    obtain ⟨rfl, rfl⟩ := e
    exact ⟨rfl, rfl, Or.inl hk⟩
  · rename_i hk
    simp only [List.mem_flatMap, List.mem_map] at hm
    obtain ⟨u, hu, c, hc, rfl⟩ := hm
    simp only [List.cons.injEq, and_true] at e
    obtain ⟨rfl, rfl⟩ := e
    exact ⟨rfl, rfl, Or.inr hk⟩
  · split at hm
    · simp only [List.mem_singleton] at hm
      subst hm
      simp at e
    · simp at hm
  · split at hm
    · simp only [List.mem_singleton] at hm
      subst hm
      simp at e
    · simp at hm
/-- places of a POINT with the same BARGAINS that are no deeper -/
noncomputable def dp_cS (W : ld_W) (o p s b : Nat) : Nat := dp_ct (fun x => !decide (dp_D W o p x b = 0) && Nat.ble (dp_D W o p x b) (dp_D W o p s b)) 256
def ld_w (W : ld_W) (p : Nat) : Nat := p + 1 - ld_lo W p
def sb_M (b : Nat) : Nat := 2 ^ (sb_n b + 1) - 1
theorem sb_M_in : ∀ b, b < 8 → ∀ c, c < 8 → sb_in c b = true → sb_M c ≤ sb_M b := by decide
theorem sb_M_1 : ∀ b, b < 8 → 1 ≤ sb_M b ∧ sb_M b ≤ 15 := by decide
theorem sb_M_bit : ∀ b, b < 8 → ∀ k, k < 3 → b / 2 ^ k % 2 = 1 → sb_M b = 2 * sb_M (b - 2 ^ k) + 1 := by decide
theorem ld_w_1 (h : ld_ok W) {p : Nat} (hp : p < ld_p W) : 1 ≤ ld_w W p ∧ ld_w W p ≤ 24 := by
  have := ld_lo_le h p hp
  have := h.1.2.2.2.2
  unfold ld_w
  omega
theorem ld_w_part (h : ld_ok W) {p : Nat} (hp : p < ld_p W) (hk : 3 ≤ ld_kd W p) : ld_w W (ld_fi W p) + 1 ≤ ld_w W p ∧ (ld_kd W p ≤ 5 → ld_w W (ld_fi W p) + ld_w W (ld_se W p) + 1 = ld_w W p) := by
  unfold ld_w
  rcases h.2.2.2.2.2 p hp with ⟨e, _, _⟩ | ⟨e0, e1, e2, e3, e4⟩ | ⟨e0, e1, e3⟩ | ⟨e0, e1, e3, e4⟩
  · omega
  · have := ld_lo_le h (ld_fi W p) (by omega)
    exact ⟨by omega, fun _ => by omega⟩
  · have := ld_lo_le h (ld_fi W p) (by omega)
    exact ⟨by omega, fun _ => by omega⟩
  · have := ld_lo_le h (ld_fi W p) (by omega)
    exact ⟨by omega, fun _ => by omega⟩
theorem dp_cS_le (p s b : Nat) : dp_cS W o p s b ≤ 256 := dp_ct_le _ _
theorem dp_cS_1 {p s b : Nat} (hs : s < 256) (hD : dp_D W o p s b ≠ 0) : 1 ≤ dp_cS W o p s b := dp_ct_1 hs (by simp [hD])
theorem dp_cS_lt {p s t b : Nat} (hs : s < 256) (hD : dp_D W o p s b ≠ 0) (hlt : dp_D W o p t b < dp_D W o p s b) : dp_cS W o p t b < dp_cS W o p s b := by
  refine dp_ct_lt 256 (fun x _ hx => ?_) ⟨s, hs, by simp [hD], ?_⟩
  · simp only [Bool.and_eq_true, Bool.not_eq_true', decide_eq_false_iff_not, Nat.ble_eq] at hx ⊢
    exact ⟨hx.1, by omega⟩
  · simp only [Bool.and_eq_false_iff]
    refine Or.inr ?_
    cases e : (dp_D W o p s b).ble (dp_D W o p t b) with
    | false => rfl
    | true =>
      rw [Nat.ble_eq] at e
      omega
theorem dp_Sz_le (h : ld_ok W) : ∀ n p s b, p < ld_p W → s < ld_N W → b < 8 → dp_D W o p s b ≠ 0 → dp_D W o p s b ≤ n → dp_Sz W o p s b + 256 ≤ dp_cS W o p s b + 256 * (ld_w W p * sb_M b) := by
  intro n
  induction n with
  | zero =>
    intro p s b _ _ _ hD hn
    omega
  | succ n ih =>
    intro p s b hp hs hb hD hn
    have hN := ld_N_le h
    have hl := mv_best_ld h hp hs hb hD
    rw [dp_Sz_eq h hp hs hb hD]
    obtain ⟨_, hm, hby⟩ := mv_best_at h hp hs hb hD
    have hlen := (mv_ld h hp hs hb hm).1
    have hc1 := dp_cS_1 (o := o) (W := W) (p := p) (s := s) (b := b) (by omega) hD
    have hM := sb_M_1 b hb
    have hw := ld_w_1 h hp
    have hWM : ld_w W p * sb_M b = (ld_w W p - 1) * sb_M b + sb_M b := by
      obtain ⟨w, e⟩ : ∃ w, ld_w W p = w + 1 := ⟨ld_w W p - 1, by omega⟩
      rw [e, Nat.succ_mul]
      rfl
    have le1 : ∀ l, l ∈ (mv_best W o p s b).2.1 → dp_Sz W o l.1 l.2.1 l.2.2 ≤ 256 * (ld_w W l.1 * sb_M l.2.2) := by
      intro l z
      obtain ⟨a1, a2, a3, a4, a5, a6, a7, a8⟩ := hl l z
      have h1 := ih _ _ _ a2 a3 a4 a7 (by omega)
      have h2 := dp_cS_le (W := W) (o := o) l.1 l.2.1 l.2.2
      omega
    rcases mv_all_mem.mp hm with hm | ⟨k, hk, hm⟩ | ⟨k, hk, hm⟩
    · have hown := mv_own_ld h hp hs hb hm
      have hwl : ∀ l, l ∈ (mv_best W o p s b).2.1 → ld_w W l.1 + 1 ≤ ld_w W p ∧ sb_M l.2.2 ≤ sb_M b := by
        intro l z
        obtain ⟨⟨h3, h4⟩, h5, h6, h7⟩ := hown.2 l z
        have h8 := ld_w_part h hp h3
        refine ⟨?_, sb_M_in b hb _ h6 h7⟩
        rcases h4 with e | ⟨e0, e⟩
        · rw [e]
          exact h8.1
        · rw [e]
          have := h8.2 e0
          omega
      have htwo : ∀ l k, (mv_best W o p s b).2.1 = [l, k] → ld_w W l.1 + ld_w W k.1 + 1 = ld_w W p := by
        intro l k e
        obtain ⟨e1, e2, e3⟩ := mv_own_two hm e
        rw [e1, e2]
        exact (ld_w_part h hp (by omega)).2 (by omega)
      generalize (mv_best W o p s b).2.1 = ls at le1 hlen hwl htwo
      match ls, hlen, le1, hwl, htwo with
      | [], _, _, _, _ =>
        show 1 + 0 + 256 ≤ _
        omega
      | [l], _, le1, hwl, _ =>
        have h1 := le1 l (by simp)
        have h2 := hwl l (by simp)
        have h3 : ld_w W l.1 * sb_M l.2.2 ≤ (ld_w W p - 1) * sb_M b := Nat.mul_le_mul (by omega) h2.2
        show 1 + (dp_Sz W o l.1 l.2.1 l.2.2 + 0) + 256 ≤ _
        omega
      | [l, k], _, le1, hwl, htwo =>
        have h1 := le1 l (by simp)
        have h2 := hwl l (by simp)
        have g1 := le1 k (by simp)
        have g2 := hwl k (by simp)
        have h3 : ld_w W l.1 * sb_M l.2.2 ≤ ld_w W l.1 * sb_M b := Nat.mul_le_mul (Nat.le_refl _) h2.2
        have g3 : ld_w W k.1 * sb_M k.2.2 ≤ ld_w W k.1 * sb_M b := Nat.mul_le_mul (Nat.le_refl _) g2.2
        have h4 : (ld_w W p - 1) * sb_M b = ld_w W l.1 * sb_M b + ld_w W k.1 * sb_M b := by
          rw [← Nat.add_mul]
          congr 1
          have := htwo l k rfl
          omega
        show 1 + (dp_Sz W o l.1 l.2.1 l.2.2 + (dp_Sz W o k.1 k.2.1 k.2.2 + 0)) + 256 ≤ _
        omega
      | _ :: _ :: _ :: _, hlen, _, _, _ => simp at hlen
    · obtain ⟨_, t, ht, hmm⟩ := mv_oath_of hm
      have hmm2 : (mv_best W o p s b).2.1 = [(p, t, b)] := by rw [hmm]
      rw [hmm2] at hl ⊢
      obtain ⟨a1, a2, a3, a4, a5, a6, a7, a8⟩ := hl (p, t, b) (by simp)
      have h1 := ih _ _ _ a2 a3 a4 a7 (by omega)
      have h2 := dp_cS_lt (W := W) (o := o) (p := p) (s := s) (t := t) (b := b) (by omega) hD a8
      show 1 + (dp_Sz W o p t b + 0) + 256 ≤ _
      have h1 : dp_Sz W o p t b + 256 ≤ dp_cS W o p t b + 256 * (ld_w W p * sb_M b) := h1
      omega
    · have hb3 := h.1.2.2.1
      obtain ⟨hbit, t, ht, ⟨_, hmm⟩ | ⟨x, t2, hx, ht2, hmm⟩⟩ := mv_barg_of hm
      · have hmm2 : (mv_best W o p s b).2.1 = [(p, t, b - 2 ^ k)] := by rw [hmm]
        rw [hmm2] at le1 ⊢
        have h1 : dp_Sz W o p t (b - 2 ^ k) ≤ 256 * (ld_w W p * sb_M (b - 2 ^ k)) := le1 (p, t, b - 2 ^ k) (by simp)
        have h2 := sb_M_bit b hb k (by omega) hbit
        have h3 : ld_w W p * sb_M b = 2 * (ld_w W p * sb_M (b - 2 ^ k)) + ld_w W p := by
          rw [h2, Nat.mul_add, Nat.mul_one, Nat.mul_left_comm]
        show 1 + (dp_Sz W o p t (b - 2 ^ k) + 0) + 256 ≤ _
        omega
      · have hmm2 : (mv_best W o p s b).2.1 = [(p, t, b - 2 ^ k), (p, t2, b - 2 ^ k)] := by rw [hmm]
        rw [hmm2] at le1 ⊢
        have h1 : dp_Sz W o p t (b - 2 ^ k) ≤ 256 * (ld_w W p * sb_M (b - 2 ^ k)) := le1 (p, t, b - 2 ^ k) (by simp)
        have g1 : dp_Sz W o p t2 (b - 2 ^ k) ≤ 256 * (ld_w W p * sb_M (b - 2 ^ k)) := le1 (p, t2, b - 2 ^ k) (by simp)
        have h2 := sb_M_bit b hb k (by omega) hbit
        have h3 : ld_w W p * sb_M b = 2 * (ld_w W p * sb_M (b - 2 ^ k)) + ld_w W p := by
          rw [h2, Nat.mul_add, Nat.mul_one, Nat.mul_left_comm]
        show 1 + (dp_Sz W o p t (b - 2 ^ k) + (dp_Sz W o p t2 (b - 2 ^ k) + 0)) + 256 ≤ _
        omega
/-- no SHOWING has more steps, none is deeper -/
theorem dp_Sz_max (h : ld_ok W) {p s b : Nat} (hp : p < ld_p W) (hs : s < ld_N W) (hb : b < 8) (hD : dp_D W o p s b ≠ 0) : dp_Sz W o p s b ≤ 92160 := by
  have h1 := dp_Sz_le h _ p s b hp hs hb hD (Nat.le_refl _)
  have h2 := dp_cS_le (W := W) (o := o) p s b
  have h3 : ld_w W p * sb_M b ≤ 24 * 15 := Nat.mul_le_mul (ld_w_1 h hp).2 (sb_M_1 b hb).2
  omega
theorem dp_D_max (h : ld_ok W) {p s b : Nat} (hp : p < ld_p W) (hs : s < ld_N W) (hb : b < 8) : dp_D W o p s b ≤ 92160 := by
  by_cases hD : dp_D W o p s b = 0
  · omega
  · exact Nat.le_trans (dp_D_Sz h _ p s b hp hs hb (Nat.le_refl _)) (dp_Sz_max h hp hs hb hD)
end Dr
