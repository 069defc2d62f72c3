/-! TOGETHER: sets that can be shown, the least parts. -/
section Ca
variable {W : ld_W} {o : Nat}
def cA (W : ld_W) (o S s b : Nat) : Prop := ∃ w, TV W o (ld_c W) 0 s b (w, S)
theorem mod_dn {S c : Nat} (h : S % 2 ^ (c + 1) = 0) : S % 2 ^ c = 0 ∧ S / 2 ^ c % 2 = 0 := by
  rw [Nat.pow_succ] at h
  obtain ⟨q, hq⟩ : ∃ q, S = 2 ^ c * 2 * q := ⟨S / (2 ^ c * 2), by have := Nat.div_add_mod S (2 ^ c * 2); omega⟩
  have hpos : 0 < 2 ^ c := Nat.pow_pos (by decide)
  rw [hq, Nat.mul_assoc]
  exact ⟨Nat.mul_mod_right _ _, by rw [Nat.mul_div_cancel_left _ hpos]; omega⟩
theorem TV_from {S s b w : Nat} : ∀ c, c ≤ ld_c W → S % 2 ^ c = 0 → (TV W o (ld_c W) 0 s b (w, S) ↔ TV W o (ld_c W - c) c s b (w, S))
  | 0, _, _ => Iff.rfl
  | c + 1, hc, h => by
    obtain ⟨h1, h2⟩ := mod_dn h
    rw [TV_from c (by omega) h1, show ld_c W - c = ld_c W - (c + 1) + 1 by omega]
    constructor
    · rintro (z | ⟨x, d, v', _, _, _, _, _, z, e⟩)
      · exact z
      · have h3 := TV_bit1 z
        have h4 : S = v'.2 + 2 ^ c := congrArg Prod.snd e
        rw [← h4] at h3
        omega
    · exact Or.inl
theorem cA_0 {s b : Nat} : cA W o 0 s b ↔ s = 0 := by
  constructor
  · rintro ⟨w, h⟩
    rw [TV_from (ld_c W) (Nat.le_refl _) (Nat.zero_mod _), Nat.sub_self] at h
    exact h.1
  · intro h
    refine ⟨0, ?_⟩
    rw [TV_from (ld_c W) (Nat.le_refl _) (Nat.zero_mod _), Nat.sub_self]
    exact ⟨h, rfl⟩
/-- a part for the c-th: its STOCK and its BARGAINS, as one number -/
def fpP (W : ld_W) (o c S s b k : Nat) : Prop := st_in (k / 8) s = true ∧ k / 8 < 256 ∧ sb_in (k % 8) b = true ∧ dp_D W o (ld_ro W c) (k / 8) (k % 8) ≠ 0 ∧ cA W o (S - 2 ^ c) (s - k / 8) (b - k % 8)
theorem bit_split {S c : Nat} (h : S % 2 ^ c = 0) (h1 : S / 2 ^ c % 2 = 1) : 2 ^ c ≤ S ∧ (S - 2 ^ c) % 2 ^ (c + 1) = 0 := by
  have hpos : 0 < 2 ^ c := Nat.pow_pos (by decide)
  obtain ⟨q, hq⟩ : ∃ q, S = 2 ^ c * q := ⟨S / 2 ^ c, by have := Nat.div_add_mod S (2 ^ c); omega⟩
  rw [hq, Nat.mul_div_cancel_left _ hpos] at h1
  obtain ⟨r, hr⟩ : ∃ r, q = 2 * r + 1 := ⟨q / 2, by omega⟩
  have h2 : S = 2 ^ c * 2 * r + 2 ^ c := by
    rw [hq, hr, Nat.mul_add, Nat.mul_one, Nat.mul_assoc]
  rw [h2]
  refine ⟨Nat.le_add_left _ _, ?_⟩
  rw [Nat.add_sub_cancel, Nat.pow_succ]
  exact Nat.mul_mod_right _ _
theorem cA_low {S s b c : Nat} (hc : c < ld_c W) (h : S % 2 ^ c = 0) (h1 : S / 2 ^ c % 2 = 1) : cA W o S s b ↔ ∃ k, fpP W o c S s b k := by
  obtain ⟨h2, h3⟩ := bit_split h h1
  constructor
  · rintro ⟨w, z⟩
    rw [TV_from c (by omega) h, show ld_c W - c = ld_c W - (c + 1) + 1 by omega] at z
    rcases z with z | ⟨x, d, v', z1, z2, z3, z4, z5, z, e⟩
    · have := TV_bit0 z
      have : S / 2 ^ c % 2 = 0 := this
      omega
    · have e2 : S = v'.2 + 2 ^ c := congrArg Prod.snd e
      refine ⟨8 * x + d, ?_⟩
      unfold fpP
      rw [show (8 * x + d) / 8 = x by omega, show (8 * x + d) % 8 = d by omega]
      refine ⟨z1, z2, z3, z5, v'.1, ?_⟩
      rw [TV_from (c + 1) (by omega) h3, show S - 2 ^ c = v'.2 by omega]
      exact z
  · rintro ⟨k, z1, z2, z3, z4, w, z⟩
    rw [TV_from (c + 1) (by omega) h3] at z
    refine ⟨w + ld_wo W c, ?_⟩
    rw [TV_from c (by omega) h, show ld_c W - c = ld_c W - (c + 1) + 1 by omega]
    exact Or.inr ⟨k / 8, k % 8, (w, S - 2 ^ c), z1, z2, z3, by omega, z4, z, Prod.ext rfl (show S = S - 2 ^ c + 2 ^ c by omega)⟩
/-- the first of them -/
def fpL (W : ld_W) (o c S s b k : Nat) : Prop := fpP W o c S s b k ∧ ∀ j, j < k → ¬ fpP W o c S s b j
theorem fpL_uniq {c S s b k k' : Nat} (h : fpL W o c S s b k) (g : fpL W o c S s b k') : k = k' := by
  rcases Nat.lt_trichotomy k k' with e | e | e
  · exact absurd h.1 (g.2 k e)
  · exact e
  · exact absurd g.1 (h.2 k' e)
/-- the parts of those in S, from the c-th on -/
def PA (W : ld_W) (o : Nat) (K : Nat → Nat) : Nat → Nat → Nat → Nat → Nat → Prop
  | 0, _, _, _, _ => True
  | m + 1, c, s, b, S => if S / 2 ^ c % 2 = 1 then fpL W o c S s b (K c) ∧ PA W o K m (c + 1) (s - K c / 8) (b - K c % 8) (S - 2 ^ c) else PA W o K m (c + 1) s b S
theorem PA_1 {K : Nat → Nat} {m c s b S : Nat} (e : S / 2 ^ c % 2 = 1) : PA W o K (m + 1) c s b S ↔ fpL W o c S s b (K c) ∧ PA W o K m (c + 1) (s - K c / 8) (b - K c % 8) (S - 2 ^ c) := by
  show (if S / 2 ^ c % 2 = 1 then _ else _) ↔ _
  rw [if_pos e]
theorem PA_0 {K : Nat → Nat} {m c s b S : Nat} (e : ¬ S / 2 ^ c % 2 = 1) : PA W o K (m + 1) c s b S ↔ PA W o K m (c + 1) s b S := by
  show (if S / 2 ^ c % 2 = 1 then _ else _) ↔ _
  rw [if_neg e]
theorem bit_less {S c j : Nat} (h : S % 2 ^ c = 0) (h1 : S / 2 ^ c % 2 = 1) (hj : c < j) : (S - 2 ^ c) / 2 ^ j % 2 = S / 2 ^ j % 2 := by
  obtain ⟨h2, h3⟩ := bit_split h h1
  rcases bit_high (S := S - 2 ^ c) hj with e | e
  · rw [show S - 2 ^ c + 2 ^ c = S by omega] at e
    exact e.symm
  · have := (mod_dn h3).2
    omega
theorem mod_up {S c : Nat} (h : S % 2 ^ c = 0) (h1 : ¬ S / 2 ^ c % 2 = 1) : S % 2 ^ (c + 1) = 0 := by
  have hpos : 0 < 2 ^ c := Nat.pow_pos (by decide)
  obtain ⟨q, hq⟩ : ∃ q, S = 2 ^ c * q := ⟨S / 2 ^ c, by have := Nat.div_add_mod S (2 ^ c); omega⟩
  rw [hq, Nat.mul_div_cancel_left _ hpos] at h1
  obtain ⟨r, hr⟩ : ∃ r, q = 2 * r := ⟨q / 2, by omega⟩
  rw [hq, hr, Nat.pow_succ, ← Nat.mul_assoc]
  exact Nat.mul_mod_right _ _
theorem PA_uniq {K K' : Nat → Nat} : ∀ m c s b S, S % 2 ^ c = 0 → PA W o K m c s b S → PA W o K' m c s b S → ∀ j, c ≤ j → j < c + m → S / 2 ^ j % 2 = 1 → K j = K' j
  | 0, c, s, b, S, _, _, _, j, h1, h2, _ => by omega
  | m + 1, c, s, b, S, h0, h, g, j, h1, h2, h3 => by
    by_cases e : S / 2 ^ c % 2 = 1
    · obtain ⟨p1, p2⟩ := (PA_1 e).mp h
      obtain ⟨q1, q2⟩ := (PA_1 e).mp g
      have hk := fpL_uniq p1 q1
      by_cases ej : j = c
      · rw [ej]
        exact hk
      · rw [← hk] at q2
        exact PA_uniq m (c + 1) _ _ _ (bit_split h0 e).2 p2 q2 j (by omega) (by omega) (by rw [bit_less h0 e (by omega)]; exact h3)
    · have p := (PA_0 e).mp h
      have q := (PA_0 e).mp g
      exact PA_uniq m (c + 1) _ _ _ (mod_up h0 e) p q j (by have : j ≠ c := fun z => e (z ▸ h3); omega) (by omega) h3
theorem PA_congr {K K' : Nat → Nat} : ∀ m c s b S, (∀ j, c ≤ j → j < c + m → K j = K' j) → PA W o K m c s b S → PA W o K' m c s b S
  | 0, _, _, _, _, _, _ => trivial
  | m + 1, c, s, b, S, e, h => by
    by_cases e1 : S / 2 ^ c % 2 = 1
    · obtain ⟨p1, p2⟩ := (PA_1 e1).mp h
      have hk := e c (Nat.le_refl _) (by omega)
      refine (PA_1 e1).mpr ?_
      rw [← hk]
      exact ⟨p1, PA_congr m (c + 1) _ _ _ (fun j h1 h2 => e j (by omega) (by omega)) p2⟩
    · exact (PA_0 e1).mpr (PA_congr m (c + 1) _ _ _ (fun j h1 h2 => e j (by omega) (by omega)) ((PA_0 e1).mp h))
/-- what TOGETHER finds -/
def tgA (W : ld_W) (h : Nat × Nat × Nat) (r : Option (Nat × Nat)) (K : Nat → Nat) : Prop := RV (TV W h.2.1 (ld_c W) 0 h.1 h.2.2) r ∧ ∀ v, r = some v → PA W h.2.1 K (ld_c W) 0 h.1 h.2.2 v.2
/-- behind a best one stands the best of the rest -/
theorem RV_rest {m c s b : Nat} {v : Nat × Nat} (h : RV (TV W o (m + 1) c s b) (some v)) : (¬ v.2 / 2 ^ c % 2 = 1 → RV (TV W o m (c + 1) s b) (some v)) ∧ (v.2 / 2 ^ c % 2 = 1 → ∃ v', v = up2 (ld_wo W c) (2 ^ c) v' ∧ v'.2 = v.2 - 2 ^ c ∧ (∃ x d, st_in x s = true ∧ x < 256 ∧ sb_in d b = true ∧ d < 8 ∧ dp_D W o (ld_ro W c) x d ≠ 0 ∧ TV W o m (c + 1) (s - x) (b - d) v') ∧ ∀ x d, st_in x s = true → x < 256 → sb_in d b = true → d < 8 → dp_D W o (ld_ro W c) x d ≠ 0 → TV W o m (c + 1) (s - x) (b - d) v' → RV (TV W o m (c + 1) (s - x) (b - d)) (some v')) := by
  rcases h with ⟨h, _⟩ | ⟨w, h, h1, h2⟩
  · exact absurd h (by simp)
  · rw [Option.some.injEq] at h
    rw [← h] at h1 h2
    refine ⟨fun e => ?_, fun e => ?_⟩
    · rcases h1 with z | ⟨x, d, v', z1, z2, z3, z4, z5, z, e2⟩
      · exact Or.inr ⟨v, rfl, z, fun v' hv' => h2 v' (Or.inl hv')⟩
      · refine absurd ?_ e
        rw [e2]
        exact TV_bit1 z
    · rcases h1 with z | ⟨x, d, v', z1, z2, z3, z4, z5, z, e2⟩
      · have := TV_bit0 z
        omega
      · refine ⟨v', e2, ?_, ⟨x, d, z1, z2, z3, z4, z5, z⟩, fun x2 d2 y1 y2 y3 y4 y5 y6 => Or.inr ⟨v', rfl, y6, fun u hu => ?_⟩⟩
        · rw [e2]
          show v'.2 = v'.2 + 2 ^ c - 2 ^ c
          omega
        · have := h2 (up2 (ld_wo W c) (2 ^ c) u) (Or.inr ⟨x2, d2, u, y1, y2, y3, y4, y5, hu, rfl⟩)
          rw [e2] at this
          unfold ge2 up2 at *
          have : u.1 + ld_wo W c < v'.1 + ld_wo W c ∨ (u.1 + ld_wo W c = v'.1 + ld_wo W c ∧ v'.2 + 2 ^ c ≤ u.2 + 2 ^ c) := this
          omega
/-- the rest is right just where its set can be shown -/
theorem TV_cA {c s b : Nat} {v : Nat × Nat} (hc : c ≤ ld_c W) (hS : v.2 % 2 ^ c = 0) (hw : v.1 = wts W v.2 (ld_c W - c) c) : TV W o (ld_c W - c) c s b v ↔ cA W o v.2 s b := by
  constructor
  · intro h
    exact ⟨v.1, (TV_from c hc hS).mpr h⟩
  · rintro ⟨w, h⟩
    have h1 := (TV_from c hc hS).mp h
    have h2 : w = wts W v.2 (ld_c W - c) c := TV_w _ _ _ _ _ h1
    have : (w, v.2) = v := Prod.ext (h2.trans hw.symm) rfl
    rw [this] at h1
    exact h1
end Ca
