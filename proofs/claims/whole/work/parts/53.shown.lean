/-! What can be shown, how deep. -/
theorem mv_oath_of {W : ld_W} {o p s b k : Nat} {m : mv_T} (h : mv_oath W o p s b k = some m) : o / 2 ^ k % 2 = 1 ∧ ∃ t, dp_ch s (ld_tk W k) (ld_gv W k) = some t ∧ m = (10 + k, [(p, t, b)], -1, -1) := by
  unfold mv_oath at h
  split at h
  · rename_i z
    refine ⟨z, ?_⟩
    cases e : dp_ch s (ld_tk W k) (ld_gv W k) with
    | none =>
      rw [e] at h
      exact absurd h (by simp)
    | some t =>
      rw [e] at h
      simp only [Option.map_some, Option.some.injEq] at h
      exact ⟨t, rfl, h.symm⟩
  · exact absurd h (by simp)
theorem mv_barg_of {W : ld_W} {p s b k : Nat} {m : mv_T} (h : mv_barg W p s b k = some m) : b / 2 ^ k % 2 = 1 ∧ ∃ t, dp_ch s (ld_tk W (3 + k)) (ld_gv W (3 + k)) = some t ∧ ((ld_ot W (3 + k) = 0 ∧ m = (20 + k, [(p, t, b - 2 ^ k)], -1, -1)) ∨ ∃ x t2, ld_ot W (3 + k) = x + 1 ∧ dp_ch s (ld_tk W (3 + k)) x = some t2 ∧ m = (20 + k, [(p, t, b - 2 ^ k), (p, t2, b - 2 ^ k)], -1, -1)) := by
  unfold mv_barg at h
  split at h
  · rename_i z
    refine ⟨z, ?_⟩
    cases e : dp_ch s (ld_tk W (3 + k)) (ld_gv W (3 + k)) with
    | none =>
      rw [e] at h
      exact absurd h (by simp)
    | some t =>
      rw [e] at h
      refine ⟨t, rfl, ?_⟩
      cases e2 : ld_ot W (3 + k) with
      | zero =>
        rw [e2] at h
        simp only [Option.some.injEq] at h
        exact Or.inl ⟨rfl, h.symm⟩
      | succ x =>
        rw [e2] at h
        cases e3 : dp_ch s (ld_tk W (3 + k)) x with
        | none =>
          simp only [e3, Option.map_none] at h
          exact absurd h (by simp)
        | some t2 =>
          simp only [e3, Option.map_some, Option.some.injEq] at h
          exact Or.inr ⟨x, t2, rfl, e3, h.symm⟩
  · exact absurd h (by simp)
theorem mv_all_mem {W : ld_W} {o p s b : Nat} {m : mv_T} : m ∈ mv_all W o p s b ↔ m ∈ mv_own W p s b ∨ (∃ k, k < ld_o W ∧ mv_oath W o p s b k = some m) ∨ (∃ k, k < ld_b W ∧ mv_barg W p s b k = some m) := by
  unfold mv_all
  simp only [List.mem_append, List.mem_filterMap, List.mem_range]
/-- the parts of a POINT -/
theorem ld_part {W : ld_W} (h : ld_ok W) {p : Nat} (hp : p < ld_p W) (hk : 3 ≤ ld_kd W p) : ld_fi W p < p ∧ ld_lo W p ≤ ld_fi W p ∧ (ld_kd W p ≤ 5 → ld_se W p < p ∧ ld_lo W p ≤ ld_se W p) ∧ ld_kd W p ≤ 7 ∧ (ld_kd W p = 7 → ld_se W p < ld_N W) := by
  rcases h.2.2.2.2.2 p hp with ⟨e, _, _⟩ | ⟨e0, e1, e2, e3, e4⟩ | ⟨e0, e1, e3⟩ | ⟨e0, e1, e3, e4⟩
  · omega
  · have := ld_lo_le h (ld_fi W p) (by omega)
    exact ⟨by omega, by omega, fun _ => ⟨by omega, by omega⟩, by omega, fun _ => by omega⟩
  · have := ld_lo_le h (ld_fi W p) (by omega)
    exact ⟨by omega, by omega, fun _ => by omega, by omega, fun _ => by omega⟩
  · have := ld_lo_le h (ld_fi W p) (by omega)
    exact ⟨by omega, by omega, fun _ => by omega, by omega, fun _ => e4⟩
theorem mv_own_ld {W : ld_W} (h : ld_ok W) {p s b : Nat} (hp : p < ld_p W) (hs : s < ld_N W) (hb : b < 8) {m : mv_T} (hm : m ∈ mv_own W p s b) : m.2.1.length ≤ 2 ∧ ∀ l, l ∈ m.2.1 → (3 ≤ ld_kd W p ∧ (l.1 = ld_fi W p ∨ (ld_kd W p ≤ 5 ∧ l.1 = ld_se W p))) ∧ l.2.1 < ld_N W ∧ l.2.2 < 8 ∧ sb_in l.2.2 b = true := by
  have hN := ld_N_le h
  have hself := sb_self b hb
  unfold mv_own at hm
  split at hm
  · split at hm
    · simp only [List.mem_singleton] at hm
      subst hm
      exact ⟨by simp, fun l hl => by simp at hl⟩
    · simp at hm
  · split at hm
    · simp only [List.mem_singleton] at hm
      subst hm
      exact ⟨by simp, fun l hl => by simp at hl⟩
    · simp at hm
  · simp only [List.mem_singleton] at hm
    subst hm
    exact ⟨by simp, fun l hl => by simp at hl⟩
  · rename_i hk
    simp only [List.mem_cons, List.not_mem_nil, or_false] at hm
    rcases hm with rfl | rfl
    · refine ⟨by simp, fun l hl => ?_⟩
      simp only [List.mem_singleton] at hl
      subst hl
      exact ⟨⟨by omega, Or.inl rfl⟩, hs, hb, hself⟩
    · refine ⟨by simp, fun l hl => ?_⟩
      simp only [List.mem_singleton] at hl
      subst hl
      exact ⟨⟨by omega, Or.inr ⟨by omega, rfl⟩⟩, hs, hb, hself⟩
  · rename_i hk
    simp only [List.mem_singleton] at hm
    subst hm
    refine ⟨by simp, fun l hl => ?_⟩
    simp only [List.mem_cons, List.not_mem_nil, or_false] at hl
    rcases hl with rfl | rfl
    · exact ⟨⟨by omega, Or.inl rfl⟩, hs, hb, hself⟩
    · exact ⟨⟨by omega, Or.inr ⟨by omega, rfl⟩⟩, hs, hb, hself⟩
  · rename_i hk
    simp only [List.mem_flatMap, List.mem_map] at hm
    obtain ⟨u, hu, c, hc, rfl⟩ := hm
    have h1 := (mv_ss_mem (show s < 256 by omega)).mp hu
    have h2 := (mv_bs_mem hb).mp hc
    have h3 := st_in_le (show s < 256 by omega) h1.2 h1.1
    have h4 := sb_le b hb c h2.2 h2.1
    refine ⟨by simp, fun l hl => ?_⟩
    simp only [List.mem_cons, List.not_mem_nil, or_false] at hl
    rcases hl with rfl | rfl
    · exact ⟨⟨by omega, Or.inl rfl⟩, by show u < _; omega, h2.2, h2.1⟩
    · exact ⟨⟨by omega, Or.inr ⟨by omega, rfl⟩⟩, by show s - u < _; omega, by show b - c < 8; omega, h4.2⟩
  · rename_i hk
    split at hm
    · simp only [List.mem_singleton] at hm
      subst hm
      refine ⟨by simp, fun l hl => ?_⟩
      simp only [List.mem_singleton] at hl
      subst hl
      exact ⟨⟨by omega, Or.inl rfl⟩, by show 0 < _; omega, by show 0 < 8; decide, sb_zero b hb⟩
    · simp at hm
  · rename_i k0 k1 k2 k3 k4 k5 k6
    split at hm
    · rename_i hf
      simp only [List.mem_singleton] at hm
      subst hm
      refine ⟨by simp, fun l hl => ?_⟩
      simp only [List.mem_singleton] at hl
      subst hl
      have hk : 7 ≤ ld_kd W p := by
        have n0 : ld_kd W p ≠ 0 := k0
        have n1 : ld_kd W p ≠ 1 := k1
        have n2 : ld_kd W p ≠ 2 := k2
        have n3 : ld_kd W p ≠ 3 := k3
        have n4 : ld_kd W p ≠ 4 := k4
        have n5 : ld_kd W p ≠ 5 := k5
        have n6 : ld_kd W p ≠ 6 := k6
        omega
      have hpp := ld_part h hp (by omega)
      exact ⟨⟨by omega, Or.inl rfl⟩, ld_lt h hs (hpp.2.2.2.2 (by omega)) hf, hb, hself⟩
    · simp at hm
theorem mv_ld {W : ld_W} (h : ld_ok W) {o p s b : Nat} (hp : p < ld_p W) (hs : s < ld_N W) (hb : b < 8) {m : mv_T} (hm : m ∈ mv_all W o p s b) : m.2.1.length ≤ 2 ∧ ∀ l, l ∈ m.2.1 → ld_lo W p ≤ l.1 ∧ l.1 ≤ p ∧ l.2.1 < ld_N W ∧ l.2.2 < 8 ∧ sb_in l.2.2 b = true := by
  have hlo := ld_lo_le h p hp
  rcases mv_all_mem.mp hm with hm | ⟨k, hk, hm⟩ | ⟨k, hk, hm⟩
  · obtain ⟨h1, h2⟩ := mv_own_ld h hp hs hb hm
    refine ⟨h1, fun l hl => ?_⟩
    obtain ⟨⟨h3, h4⟩, h5⟩ := h2 l hl
    obtain ⟨g1, g2, g3, _⟩ := ld_part h hp h3
    refine ⟨?_, ?_, h5⟩
    · rcases h4 with e | ⟨e0, e⟩
      · omega
      · have := g3 e0
        omega
    · rcases h4 with e | ⟨e0, e⟩
      · omega
      · have := g3 e0
        omega
  · obtain ⟨_, t, ht, rfl⟩ := mv_oath_of hm
    refine ⟨by simp, fun l hl => ?_⟩
    simp only [List.mem_singleton] at hl
    subst hl
    exact ⟨hlo, Nat.le_refl _, dp_ch_N h hs (h.2.1 k (Or.inl hk)).2.1 ht, hb, sb_self b hb⟩
  · have hb3 := h.1.2.2.1
    have hd := h.2.1 (3 + k) (Or.inr ⟨by omega, by omega⟩)
    obtain ⟨hbit, t, ht, ⟨_, rfl⟩ | ⟨x, t2, hx, ht2, rfl⟩⟩ := mv_barg_of hm
    · have hbb := sb_bit b hb k (by omega) hbit
      refine ⟨by simp, fun l hl => ?_⟩
      simp only [List.mem_singleton] at hl
      subst hl
      exact ⟨hlo, Nat.le_refl _, dp_ch_N h hs hd.2.1 ht, Nat.lt_of_le_of_lt (Nat.sub_le _ _) hb, hbb.2.1⟩
    · have hbb := sb_bit b hb k (by omega) hbit
      refine ⟨by simp, fun l hl => ?_⟩
      simp only [List.mem_cons, List.not_mem_nil, or_false] at hl
      rcases hl with rfl | rfl
      · exact ⟨hlo, Nat.le_refl _, dp_ch_N h hs hd.2.1 ht, Nat.lt_of_le_of_lt (Nat.sub_le _ _) hb, hbb.2.1⟩
      · exact ⟨hlo, Nat.le_refl _, dp_ch_N h hs (show x < ld_N W by omega) ht2, Nat.lt_of_le_of_lt (Nat.sub_le _ _) hb, hbb.2.1⟩
/-- a POINT can be shown in no more than so many steps one below the other -/
def dp_Sh (W : ld_W) (o : Nat) : Nat → Nat → Nat → Nat → Prop
  | 0, _, _, _ => False
  | n + 1, p, s, b => ∃ m, m ∈ mv_all W o p s b ∧ ∀ l, l ∈ m.2.1 → dp_Sh W o n l.1 l.2.1 l.2.2
theorem dp_Sh_S {W : ld_W} {o : Nat} : ∀ n p s b, dp_Sh W o n p s b → dp_Sh W o (n + 1) p s b
  | 0, _, _, _, h => h.elim
  | n + 1, p, s, b, h => by
    obtain ⟨m, hm, hl⟩ := h
    exact ⟨m, hm, fun l z => dp_Sh_S n _ _ _ (hl l z)⟩
theorem dp_Sh_mono {W : ld_W} {o n k p s b : Nat} (hk : n ≤ k) (h : dp_Sh W o n p s b) : dp_Sh W o k p s b := by
  induction k with
  | zero =>
    obtain rfl : n = 0 := by omega
    exact h
  | succ k ih =>
    rcases Nat.lt_or_ge n (k + 1) with e | e
    · exact dp_Sh_S k p s b (ih (by omega))
    · obtain rfl : n = k + 1 := by omega
      exact h
theorem dp_ex (W : ld_W) (o p s b : Nat) : ∃ n, (n = 0 ∧ ∀ m, ¬ dp_Sh W o m p s b) ∨ (dp_Sh W o n p s b ∧ ∀ m, m < n → ¬ dp_Sh W o m p s b) := by
  by_cases h : ∃ n, dp_Sh W o n p s b
  · obtain ⟨n, h1, h2⟩ := pk_least _ h
    exact ⟨n, Or.inr ⟨h1, h2⟩⟩
  · exact ⟨0, Or.inl ⟨rfl, fun m hm => h ⟨m, hm⟩⟩⟩
noncomputable def dp_D (W : ld_W) (o p s b : Nat) : Nat := Classical.choose (dp_ex W o p s b)
theorem dp_D_or (W : ld_W) (o p s b : Nat) : (dp_D W o p s b = 0 ∧ ∀ m, ¬ dp_Sh W o m p s b) ∨ (dp_Sh W o (dp_D W o p s b) p s b ∧ ∀ m, m < dp_D W o p s b → ¬ dp_Sh W o m p s b) := Classical.choose_spec (dp_ex W o p s b)
theorem dp_D_sh {W : ld_W} {o p s b : Nat} (h : dp_D W o p s b ≠ 0) : dp_Sh W o (dp_D W o p s b) p s b := by
  rcases dp_D_or W o p s b with e | e
  · exact absurd e.1 h
  · exact e.1
theorem dp_D_le {W : ld_W} {o n p s b : Nat} (h : dp_Sh W o n p s b) : dp_D W o p s b ≠ 0 ∧ dp_D W o p s b ≤ n := by
  rcases dp_D_or W o p s b with e | e
  · exact absurd h (e.2 n)
  · refine ⟨fun z => ?_, ?_⟩
    · have := e.1
      rw [z] at this
      exact this
    · rcases Nat.lt_or_ge n (dp_D W o p s b) with g | g
      · exact absurd h (e.2 n g)
      · exact g
/-- depth above what is led to -/
def dp_ld (d : Nat → Nat → Nat → Nat) (ls : List (Nat × Nat × Nat)) : Nat := match ls with
  | [] => 1
  | [l] => dp_one (d l.1 l.2.1 l.2.2)
  | l :: k :: _ => dp_both (d l.1 l.2.1 l.2.2) (d k.1 k.2.1 k.2.2)
noncomputable def dp_by (W : ld_W) (o : Nat) (m : mv_T) : Nat := dp_ld (dp_D W o) m.2.1
theorem dp_ld_le {d : Nat → Nat → Nat → Nat} {ls : List (Nat × Nat × Nat)} {n : Nat} (h : ∀ l, l ∈ ls → d l.1 l.2.1 l.2.2 ≠ 0 ∧ d l.1 l.2.1 l.2.2 ≤ n) : dp_ld d ls ≠ 0 ∧ dp_ld d ls ≤ n + 1 := by
  match ls, h with
  | [], _ => exact ⟨by show 1 ≠ 0; decide, by show 1 ≤ n + 1; omega⟩
  | [l], h =>
    have := h l (by simp)
    show dp_one _ ≠ 0 ∧ dp_one _ ≤ n + 1
    unfold dp_one
    rw [if_neg this.1]
    omega
  | l :: k :: r, h =>
    have h1 := h l (by simp)
    have h2 := h k (by simp)
    show dp_both _ _ ≠ 0 ∧ dp_both _ _ ≤ n + 1
    unfold dp_both
    rw [if_neg (by omega)]
    split <;> omega
theorem dp_ld_pos {d : Nat → Nat → Nat → Nat} {ls : List (Nat × Nat × Nat)} (hl : ls.length ≤ 2) (h : dp_ld d ls ≠ 0) : ∀ l, l ∈ ls → d l.1 l.2.1 l.2.2 ≠ 0 ∧ d l.1 l.2.1 l.2.2 < dp_ld d ls := by
  match ls, hl, h with
  | [], _, _ => exact fun l hl => by simp at hl
  | [a], _, h =>
    intro l hl
    simp only [List.mem_singleton] at hl
    subst hl
    have h : dp_one (d l.1 l.2.1 l.2.2) ≠ 0 := h
    show _ ∧ _ < dp_one (d l.1 l.2.1 l.2.2)
    unfold dp_one at h ⊢
    split at h
    · exact absurd rfl h
    · rename_i z
      rw [if_neg z]
      omega
  | [a, c], _, h =>
    intro l hl
    have h : dp_both (d a.1 a.2.1 a.2.2) (d c.1 c.2.1 c.2.2) ≠ 0 := h
    show _ ∧ _ < dp_both (d a.1 a.2.1 a.2.2) (d c.1 c.2.1 c.2.2)
    unfold dp_both at h ⊢
    split at h
    · exact absurd rfl h
    · rename_i z
      rw [if_neg z]
      simp only [List.mem_cons, List.not_mem_nil, or_false] at hl
      rcases hl with rfl | rfl
      · split <;> omega
      · split <;> omega
  | a :: b :: c :: r, hl, _ => simp at hl
theorem dp_ld_congr {d e : Nat → Nat → Nat → Nat} {ls : List (Nat × Nat × Nat)} (h : ∀ l, l ∈ ls → d l.1 l.2.1 l.2.2 = e l.1 l.2.1 l.2.2) : dp_ld d ls = dp_ld e ls := by
  match ls, h with
  | [], _ => rfl
  | [l], h =>
    show dp_one _ = dp_one _
    rw [h l (by simp)]
  | l :: k :: r, h =>
    show dp_both _ _ = dp_both _ _
    rw [h l (by simp), h k (by simp)]
section Dp
variable {W : ld_W} {o : Nat}
theorem dp_D_by (h : ld_ok W) {p s b : Nat} (hp : p < ld_p W) (hs : s < ld_N W) (hb : b < 8) {m : mv_T} (hm : m ∈ mv_all W o p s b) : dp_bt (dp_D W o p s b) (dp_by W o m) := by
  intro hne
  have hl := mv_ld h hp hs hb hm
  have hps := dp_ld_pos hl.1 hne
  obtain ⟨n, hn⟩ : ∃ n, dp_by W o m = n + 1 := ⟨dp_by W o m - 1, by omega⟩
  rw [hn]
  refine dp_D_le ⟨m, hm, fun l z => ?_⟩
  have h1 := hps l z
  exact dp_Sh_mono (by show dp_D W o l.1 l.2.1 l.2.2 ≤ n; have : dp_D W o l.1 l.2.1 l.2.2 < dp_by W o m := h1.2; omega) (dp_D_sh h1.1)
theorem dp_D_at (h : ld_ok W) {p s b : Nat} (hp : p < ld_p W) (hs : s < ld_N W) (hb : b < 8) (hD : dp_D W o p s b ≠ 0) : ∃ m, m ∈ mv_all W o p s b ∧ dp_by W o m = dp_D W o p s b := by
  obtain ⟨n, hn⟩ : ∃ n, dp_D W o p s b = n + 1 := ⟨dp_D W o p s b - 1, by omega⟩
  have hsh := dp_D_sh hD
  rw [hn] at hsh
  obtain ⟨m, hm, hl⟩ := hsh
  refine ⟨m, hm, ?_⟩
  have h1 : dp_by W o m ≠ 0 ∧ dp_by W o m ≤ n + 1 := dp_ld_le fun l z => dp_D_le (hl l z)
  have h2 := dp_D_by h hp hs hb hm h1.1
  omega
/-- a table that is sound and closed is that of the depths -/
theorem dp_uniq {X : Nat → Nat → Nat → Prop} {d : Nat → Nat → Nat → Nat} (hX : ∀ p s b, X p s b → ∀ m, m ∈ mv_all W o p s b → ∀ l, l ∈ m.2.1 → X l.1 l.2.1 l.2.2)
    (hs : ∀ p s b, X p s b → d p s b ≠ 0 → dp_Sh W o (d p s b) p s b) (hc : ∀ p s b, X p s b → ∀ m, m ∈ mv_all W o p s b → dp_bt (d p s b) (dp_ld d m.2.1)) : ∀ p s b, X p s b → d p s b = dp_D W o p s b := by
  have key : ∀ n p s b, X p s b → dp_Sh W o n p s b → d p s b ≠ 0 ∧ d p s b ≤ n := by
    intro n
    induction n with
    | zero => exact fun p s b _ h => h.elim
    | succ n ih =>
      intro p s b hx ⟨m, hm, hl⟩
      have h1 := dp_ld_le (d := d) (n := n) fun l z => ih l.1 l.2.1 l.2.2 (hX p s b hx m hm l z) (hl l z)
      have h2 := hc p s b hx m hm h1.1
      exact ⟨h2.1, by omega⟩
  intro p s b hx
  by_cases hD : dp_D W o p s b = 0
  · by_cases e : d p s b = 0
    · omega
    · exact absurd hD (dp_D_le (hs p s b hx e)).1
  · have h1 := key _ p s b hx (dp_D_sh hD)
    have h2 := dp_D_le (hs p s b hx h1.1)
    omega
/-- one row, all else being right -/
noncomputable def dp_mix (W : ld_W) (o p b : Nat) (r : Nat → Nat) (p' s' b' : Nat) : Nat := if p' = p ∧ b' = b then r s' else dp_D W o p' s' b'
end Dp
