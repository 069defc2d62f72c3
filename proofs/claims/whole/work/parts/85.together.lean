/-! TOGETHER: what CLAIMS can be shown together, the best of it. -/
/-- worth and CLAIMS (bits) that can be shown from the c-th on -/
def TV (W : ld_W) (o : Nat) : Nat → Nat → Nat → Nat → Nat × Nat → Prop
  | 0, _, s, _, v => s = 0 ∧ v = (0, 0)
  | m + 1, c, s, b, v => TV W o m (c + 1) s b v ∨ ∃ x d v', st_in x s = true ∧ x < 256 ∧ sb_in d b = true ∧ d < 8 ∧ dp_D W o (ld_ro W c) x d ≠ 0 ∧ TV W o m (c + 1) (s - x) (b - d) v' ∧ v = (v'.1 + ld_wo W c, v'.2 + 2 ^ c)
/-- no worse -/
def ge2 (v v' : Nat × Nat) : Prop := v'.1 < v.1 ∨ (v'.1 = v.1 ∧ v.2 ≤ v'.2)
theorem ge2_refl (v : Nat × Nat) : ge2 v v := Or.inr ⟨rfl, Nat.le_refl _⟩
theorem ge2_trans {u v w : Nat × Nat} (h : ge2 u v) (g : ge2 v w) : ge2 u w := by
  unfold ge2 at *
  omega
theorem ge2_tot (u v : Nat × Nat) : ge2 u v ∨ ge2 v u := by
  unfold ge2
  omega
theorem ge2_eq {u v : Nat × Nat} (h : ge2 u v) (g : ge2 v u) : u = v := by
  unfold ge2 at *
  exact Prod.ext (by omega) (by omega)
/-- the best of a kind -/
def RV (C : Nat × Nat → Prop) (r : Option (Nat × Nat)) : Prop := (r = none ∧ ∀ v, ¬ C v) ∨ ∃ v, r = some v ∧ C v ∧ ∀ v', C v' → ge2 v v'
theorem RV_uniq {C : Nat × Nat → Prop} {r r' : Option (Nat × Nat)} (h : RV C r) (g : RV C r') : r = r' := by
  rcases h with ⟨h1, h2⟩ | ⟨v, h1, h2, h3⟩
  · rcases g with ⟨g1, _⟩ | ⟨w, _, g2, _⟩
    · rw [h1, g1]
    · exact absurd g2 (h2 w)
  · rcases g with ⟨_, g2⟩ | ⟨w, g1, g2, g3⟩
    · exact absurd h2 (g2 v)
    · rw [h1, g1, ge2_eq (h3 w g2) (g3 v h2)]
theorem RV_congr {C C' : Nat × Nat → Prop} {r : Option (Nat × Nat)} (e : ∀ v, C v ↔ C' v) (h : RV C r) : RV C' r := by
  rcases h with ⟨h1, h2⟩ | ⟨v, h1, h2, h3⟩
  · exact Or.inl ⟨h1, fun v z => h2 v ((e v).mpr z)⟩
  · exact Or.inr ⟨v, h1, (e v).mp h2, fun v' z => h3 v' ((e v').mpr z)⟩
/-- more come in, each raised by (a, k) -/
def up2 (a k : Nat) (v : Nat × Nat) : Nat × Nat := (v.1 + a, v.2 + k)
def mx2 (r : Option (Nat × Nat)) (q : Option (Nat × Nat)) : Option (Nat × Nat) := match q with
  | none => r
  | some w => (match r with
    | none => some w
    | some v => if v.1 < w.1 ∨ (v.1 = w.1 ∧ w.2 < v.2) then some w else some v)
theorem RV_up {C D : Nat × Nat → Prop} {a k : Nat} {r q : Option (Nat × Nat)} (h : RV C r) (g : RV D q) : RV (fun v => C v ∨ ∃ v', D v' ∧ v = up2 a k v') (mx2 r (q.map (up2 a k))) := by
  rcases g with ⟨g1, g2⟩ | ⟨w, g1, g2, g3⟩
  · rw [g1]
    refine RV_congr (fun v => ⟨Or.inl, fun z => ?_⟩) h
    rcases z with z | ⟨v', z, _⟩
    · exact z
    · exact absurd z (g2 v')
  · rw [g1]
    have gup : ∀ v', D v' → ge2 (up2 a k w) (up2 a k v') := by
      intro v' z
      have := g3 v' z
      unfold ge2 up2 at *
      show v'.1 + a < w.1 + a ∨ (v'.1 + a = w.1 + a ∧ w.2 + k ≤ v'.2 + k)
      omega
    rcases h with ⟨h1, h2⟩ | ⟨v, h1, h2, h3⟩
    · rw [h1]
      refine Or.inr ⟨up2 a k w, rfl, Or.inr ⟨w, g2, rfl⟩, fun v' z => ?_⟩
      rcases z with z | ⟨v2, z, e⟩
      · exact absurd z (h2 v')
      · rw [e]
        exact gup v2 z
    · rw [h1]
      show RV _ (if v.1 < (up2 a k w).1 ∨ (v.1 = (up2 a k w).1 ∧ (up2 a k w).2 < v.2) then some (up2 a k w) else some v)
      by_cases e : v.1 < (up2 a k w).1 ∨ (v.1 = (up2 a k w).1 ∧ (up2 a k w).2 < v.2)
      · rw [if_pos e]
        refine Or.inr ⟨up2 a k w, rfl, Or.inr ⟨w, g2, rfl⟩, fun v' z => ?_⟩
        rcases z with z | ⟨v2, z, e2⟩
        · have := h3 v' z
          unfold ge2 at *
          omega
        · rw [e2]
          exact gup v2 z
      · rw [if_neg e]
        refine Or.inr ⟨v, rfl, Or.inl h2, fun v' z => ?_⟩
        rcases z with z | ⟨v2, z, e2⟩
        · exact h3 v' z
        · rw [e2]
          refine ge2_trans ?_ (gup v2 z)
          unfold ge2
          omega
section Av
variable {W : ld_W} {o : Nat}
/-- a set that can be shown tells its worth -/
def wts (W : ld_W) (S : Nat) : Nat → Nat → Nat
  | 0, _ => 0
  | m + 1, c => (if S / 2 ^ c % 2 = 1 then ld_wo W c else 0) + wts W S m (c + 1)
theorem TV_S : ∀ m c s b v, TV W o m c s b v → v.2 % 2 ^ c = 0 ∧ v.2 < 2 ^ (c + m)
  | 0, c, s, b, v, h => by
    rw [h.2]
    exact ⟨Nat.zero_mod _, Nat.pow_pos (by decide)⟩
  | m + 1, c, s, b, v, h => by
    rcases h with h | ⟨x, d, v', _, _, _, _, _, h, e⟩
    · obtain ⟨h1, h2⟩ := TV_S m (c + 1) s b v h
      rw [Nat.pow_succ] at h1
      refine ⟨?_, by rw [show c + (m + 1) = c + 1 + m by omega]; exact h2⟩
      have := Nat.mod_mul_right_mod v.2 (2 ^ c) 2
      rw [h1, Nat.zero_mod] at this
      exact this.symm
    · obtain ⟨h1, h2⟩ := TV_S m (c + 1) (s - x) (b - d) v' h
      rw [e]
      rw [Nat.pow_succ] at h1
      have h3 : v'.2 % 2 ^ c = 0 := by
        have := Nat.mod_mul_right_mod v'.2 (2 ^ c) 2
        rw [h1, Nat.zero_mod] at this
        exact this.symm
      refine ⟨?_, ?_⟩
      · show (v'.2 + 2 ^ c) % 2 ^ c = 0
        rw [Nat.add_mod_right]
        exact h3
      · show v'.2 + 2 ^ c < 2 ^ (c + (m + 1))
        rw [show c + (m + 1) = c + 1 + m by omega]
        obtain ⟨q, hq⟩ : ∃ q, v'.2 = 2 ^ c * 2 * q := ⟨v'.2 / (2 ^ c * 2), by have := Nat.div_add_mod v'.2 (2 ^ c * 2); omega⟩
        have hp : 2 ^ (c + 1 + m) = 2 ^ c * 2 * 2 ^ m := by rw [Nat.pow_add, Nat.pow_succ]
        rw [hp] at h2 ⊢
        rw [hq] at h2 ⊢
        have hpos : 0 < 2 ^ c := Nat.pow_pos (by decide)
        have hqm : q < 2 ^ m := Nat.lt_of_mul_lt_mul_left h2
        calc 2 ^ c * 2 * q + 2 ^ c < 2 ^ c * 2 * q + 2 ^ c * 2 := by omega
          _ = 2 ^ c * 2 * (q + 1) := by rw [Nat.mul_add, Nat.mul_one]
          _ ≤ 2 ^ c * 2 * 2 ^ m := Nat.mul_le_mul_left _ hqm
/-- whether the c-th is in it -/
theorem TV_bit0 {m c s b : Nat} {v : Nat × Nat} (h : TV W o m (c + 1) s b v) : v.2 / 2 ^ c % 2 = 0 := by
  have h1 := (TV_S m (c + 1) s b v h).1
  rw [Nat.pow_succ] at h1
  obtain ⟨q, hq⟩ : ∃ q, v.2 = 2 ^ c * 2 * q := ⟨v.2 / (2 ^ c * 2), by have := Nat.div_add_mod v.2 (2 ^ c * 2); omega⟩
  have hpos : 0 < 2 ^ c := Nat.pow_pos (by decide)
  rw [hq, Nat.mul_assoc, Nat.mul_div_cancel_left _ hpos]
  omega
theorem TV_bit1 {m c s b : Nat} {v : Nat × Nat} (h : TV W o m (c + 1) s b v) : (v.2 + 2 ^ c) / 2 ^ c % 2 = 1 := by
  have h1 := TV_bit0 h
  have hpos : 0 < 2 ^ c := Nat.pow_pos (by decide)
  rw [Nat.add_div_right _ hpos]
  omega
theorem wts_eq {S S' : Nat} : ∀ m c, (∀ j, c ≤ j → j < c + m → (S / 2 ^ j % 2 = 1 ↔ S' / 2 ^ j % 2 = 1)) → wts W S m c = wts W S' m c
  | 0, _, _ => rfl
  | m + 1, c, h => by
    show (if S / 2 ^ c % 2 = 1 then ld_wo W c else 0) + wts W S m (c + 1) = (if S' / 2 ^ c % 2 = 1 then ld_wo W c else 0) + wts W S' m (c + 1)
    rw [wts_eq m (c + 1) (fun j h1 h2 => h j (by omega) (by omega))]
    have := h c (Nat.le_refl _) (by omega)
    by_cases e : S / 2 ^ c % 2 = 1
    · rw [if_pos e, if_pos (this.mp e)]
    · rw [if_neg e, if_neg (fun z => e (this.mpr z))]
theorem bit_high {S c j : Nat} (hj : c < j) : (S + 2 ^ c) / 2 ^ j % 2 = S / 2 ^ j % 2 ∨ S / 2 ^ c % 2 = 1 := by
  by_cases e : S / 2 ^ c % 2 = 1
  · exact Or.inr e
  · refine Or.inl ?_
    obtain ⟨i, rfl⟩ : ∃ i, j = c + 1 + i := ⟨j - (c + 1), by omega⟩
    have hpos : 0 < 2 ^ c := Nat.pow_pos (by decide)
    rw [Nat.pow_add, Nat.pow_succ, ← Nat.div_div_eq_div_mul, ← Nat.div_div_eq_div_mul, ← Nat.div_div_eq_div_mul, ← Nat.div_div_eq_div_mul, Nat.add_div_right _ hpos]
    rw [show (S / 2 ^ c + 1) / 2 = S / 2 ^ c / 2 by omega]
theorem TV_w : ∀ m c s b v, TV W o m c s b v → v.1 = wts W v.2 m c
  | 0, c, s, b, v, h => by
    rw [h.2]
    rfl
  | m + 1, c, s, b, v, h => by
    show v.1 = (if v.2 / 2 ^ c % 2 = 1 then ld_wo W c else 0) + wts W v.2 m (c + 1)
    rcases h with h | ⟨x, d, v', _, _, _, _, _, h, e⟩
    · rw [if_neg (by rw [TV_bit0 h]; decide), Nat.zero_add]
      exact TV_w m (c + 1) s b v h
    · have h0 := TV_bit0 h
      rw [e]
      show v'.1 + ld_wo W c = (if (v'.2 + 2 ^ c) / 2 ^ c % 2 = 1 then ld_wo W c else 0) + wts W (v'.2 + 2 ^ c) m (c + 1)
      rw [if_pos (TV_bit1 h), TV_w m (c + 1) _ _ v' h, Nat.add_comm]
      congr 1
      refine wts_eq m (c + 1) fun j h1 h2 => ?_
      rcases bit_high (S := v'.2) (c := c) (j := j) (by omega) with z | z
      · rw [z]
      · omega
theorem wts_le (hok : ld_ok W) (S : Nat) : ∀ m c, c + m ≤ ld_c W → wts W S m c ≤ 99 * m
  | 0, _, _ => Nat.le_refl _
  | m + 1, c, h => by
    have ih := wts_le hok S m (c + 1) (by omega)
    have h1 := (hok.2.2.2.1 c (by omega)).2
    show (if S / 2 ^ c % 2 = 1 then ld_wo W c else 0) + wts W S m (c + 1) ≤ 99 * (m + 1)
    split <;> omega
/-- how large -/
theorem TV_le (hok : ld_ok W) {m c s b : Nat} {v : Nat × Nat} (hm : c + m = ld_c W) (h : TV W o m c s b v) : v.1 ≤ 594 ∧ v.2 < 64 := by
  have h1 := TV_w m c s b v h
  have h2 := wts_le hok v.2 m c (by omega)
  have h3 := (TV_S m c s b v h).2
  have hc6 := hok.1.2.2.2.1
  refine ⟨by omega, ?_⟩
  rw [hm] at h3
  exact Nat.lt_of_lt_of_le h3 (Nat.le_trans (Nat.pow_le_pow_right (by decide) hc6) (by decide))
theorem opt_ex (C : Nat × Nat → Prop) (hb : ∀ v, C v → v.1 ≤ 594) : ∃ r, RV C r := by
  by_cases h : ∃ v, C v
  · obtain ⟨v0, h0⟩ := h
    obtain ⟨k, ⟨⟨w, hw, hk⟩, hmin⟩⟩ := pk_least (fun k => ∃ v, C v ∧ v.1 + k = 594) ⟨594 - v0.1, v0, h0, by have := hb v0 h0; omega⟩
    obtain ⟨x, ⟨⟨u, hu, hu1, hu2⟩, hmin2⟩⟩ := pk_least (fun x => ∃ v, C v ∧ v.1 = w.1 ∧ v.2 = x) ⟨w.2, w, hw, rfl, rfl⟩
    refine ⟨some u, Or.inr ⟨u, rfl, hu, fun v' hv' => ?_⟩⟩
    unfold ge2
    have h1 := hb v' hv'
    rcases Nat.lt_trichotomy v'.1 u.1 with e | e | e
    · exact Or.inl e
    · refine Or.inr ⟨e, ?_⟩
      rcases Nat.lt_or_ge v'.2 u.2 with z | z
      · exact absurd ⟨v', hv', by omega, rfl⟩ (hmin2 v'.2 (by omega))
      · exact z
    · exact absurd ⟨v', hv', show v'.1 + (594 - v'.1) = 594 by omega⟩ (hmin (594 - v'.1) (by omega))
  · exact ⟨none, Or.inl ⟨rfl, fun v hv => h ⟨v, hv⟩⟩⟩
end Av
/-! Numbers below zero. -/
def cv (r : Option (Nat × Nat)) : Int32 := match r with
  | none => -1000000
  | some v => nI (64 * v.1) - nI v.2
theorem cv_toInt {v : Nat × Nat} (h1 : v.1 ≤ 594) (h2 : v.2 < 64) : (cv (some v)).toInt = (64 * v.1 : Int) - v.2 := by
  show (nI (64 * v.1) - nI v.2).toInt = _
  rw [pk_sub_toInt (by omega) (by omega)]
  omega
theorem cv_imp {v : Nat × Nat} (h1 : v.1 ≤ 594) (h2 : v.2 < 64) : cv (some v) ≠ -1000000 := by
  intro e
  have := cv_toInt h1 h2
  rw [e, show (-1000000 : Int32).toInt = -1000000 by decide] at this
  omega
set_option maxHeartbeats 40000 in
theorem i32_4 (a b x y : Int32) : (a - x) + (b - y) = (a + b) - (x + y) := by
  rw [Int32.sub_eq_add_neg, Int32.sub_eq_add_neg, Int32.sub_eq_add_neg, Int32.neg_add, Int32.sub_eq_add_neg]
  ac_rfl
theorem cv_add (v : Nat × Nat) (a k : Nat) : cv (some v) + (nI (64 * a) - nI k) = cv (some (up2 a k v)) := by
  show (nI (64 * v.1) - nI v.2) + (nI (64 * a) - nI k) = nI (64 * (v.1 + a)) - nI (v.2 + k)
  rw [i32_4, nI_add, nI_add, Nat.mul_add]
theorem cv_le {v w : Nat × Nat} (h1 : v.1 ≤ 1000) (h2 : v.2 < 64) (h3 : w.1 ≤ 1000) (h4 : w.2 < 64) : (cv (some v) ≤ cv (some w) ↔ ¬ (w.1 < v.1 ∨ (w.1 = v.1 ∧ v.2 < w.2))) := by
  show (nI (64 * v.1) - nI v.2 ≤ nI (64 * w.1) - nI w.2 ↔ _)
  rw [Int32.le_iff_toInt_le, pk_sub_toInt (by omega) (by omega), pk_sub_toInt (by omega) (by omega)]
  omega
theorem cv_le_imp {v : Nat × Nat} (h1 : v.1 ≤ 1000) (h2 : v.2 < 64) : ¬ cv (some v) ≤ cv none := by
  show ¬ (nI (64 * v.1) - nI v.2 ≤ -1000000)
  rw [Int32.le_iff_toInt_le, pk_sub_toInt (by omega) (by omega), show (-1000000 : Int32).toInt = -1000000 by decide]
  omega
theorem cv_inj {v w : Nat × Nat} (h1 : v.1 ≤ 1000) (h2 : v.2 < 64) (h3 : w.1 ≤ 1000) (h4 : w.2 < 64) (h : cv (some v) = cv (some w)) : v = w := by
  have h5 : (nI (64 * v.1) - nI v.2).toInt = (nI (64 * w.1) - nI w.2).toInt := congrArg Int32.toInt h
  rw [pk_sub_toInt (by omega) (by omega), pk_sub_toInt (by omega) (by omega)] at h5
  exact Prod.ext (by omega) (by omega)
