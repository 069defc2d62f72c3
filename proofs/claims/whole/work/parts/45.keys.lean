/-! Words as numbers: alike in base 27 and in base 32. -/
theorem lg_cmp0 (x y : Int64) : lg_cmp x y = 0 ↔ x = y := by
  unfold lg_cmp
  constructor
  · intro h
    split at h
    · exact absurd h (by decide)
    · split at h
      · rename_i e; exact e
      · exact absurd h (by decide)
  · rintro rfl
    simp [Int64.lt_irrefl]
/-- digits 1 .. 26 in a base above 26: a number tells its word -/
theorem tk_nm_inj {B : Nat} (hB : 27 ≤ B) {b c : Nat → Nat} {i j : Nat} : ∀ (k m : Nat), (∀ t, t < k → 97 ≤ b (i + t) ∧ b (i + t) ≤ 122) → (∀ t, t < m → 97 ≤ c (j + t) ∧ c (j + t) ≤ 122) → tk_nm B b i k = tk_nm B c j m → k = m ∧ ∀ t, t < k → b (i + t) = c (j + t)
  | 0, 0, _, _, _ => ⟨rfl, fun t ht => absurd ht (Nat.not_lt_zero t)⟩
  | 0, m + 1, _, hc, e => by
    have := hc m (by omega)
    have e2 : 0 = B * tk_nm B c j m + (c (j + m) - 96) := e
    omega
  | k + 1, 0, hb, _, e => by
    have := hb k (by omega)
    have e2 : B * tk_nm B b i k + (b (i + k) - 96) = 0 := e
    omega
  | k + 1, m + 1, hb, hc, e => by
    have h1 := hb k (by omega)
    have h2 := hc m (by omega)
    have e2 : B * tk_nm B b i k + (b (i + k) - 96) = B * tk_nm B c j m + (c (j + m) - 96) := e
    have e3 : (B * tk_nm B b i k + (b (i + k) - 96)) % B = (B * tk_nm B c j m + (c (j + m) - 96)) % B := by rw [e2]
    rw [Nat.mul_add_mod, Nat.mul_add_mod, Nat.mod_eq_of_lt (by omega), Nat.mod_eq_of_lt (by omega)] at e3
    have e4 : B * tk_nm B b i k = B * tk_nm B c j m := by omega
    have e5 : tk_nm B b i k = tk_nm B c j m := Nat.eq_of_mul_eq_mul_left (by omega) e4
    obtain ⟨r1, r2⟩ := tk_nm_inj hB k m (fun t ht => hb t (by omega)) (fun t ht => hc t (by omega)) e5
    refine ⟨by omega, fun t ht => ?_⟩
    subst r1
    rcases Nat.lt_or_ge t k with h | h
    · exact r2 t h
    · obtain rfl : t = k := by omega
      omega
theorem tk_nm_congr {B : Nat} {b c : Nat → Nat} {i j : Nat} : ∀ (k : Nat), (∀ t, t < k → b (i + t) = c (j + t)) → tk_nm B b i k = tk_nm B c j k
  | 0, _ => rfl
  | k + 1, h => by
    show B * tk_nm B b i k + (b (i + k) - 96) = B * tk_nm B c j k + (c (j + k) - 96)
    rw [tk_nm_congr k (fun t ht => h t (by omega)), h k (by omega)]
/-- alike in one base, alike in the other -/
theorem tk_nm_two {b c : Nat → Nat} {i j k m : Nat} (hb : ∀ t, t < k → 97 ≤ b (i + t) ∧ b (i + t) ≤ 122) (hc : ∀ t, t < m → 97 ≤ c (j + t) ∧ c (j + t) ≤ 122) : tk_nm 27 b i k = tk_nm 27 c j m ↔ tk_nm 32 b i k = tk_nm 32 c j m := by
  constructor
  · intro e
    obtain ⟨r1, r2⟩ := tk_nm_inj (by decide) k m hb hc e
    subst r1
    exact tk_nm_congr k r2
  · intro e
    obtain ⟨r1, r2⟩ := tk_nm_inj (by decide) k m hb hc e
    subst r1
    exact tk_nm_congr k r2
theorem tk_nm_lt {B : Nat} (hB : 27 ≤ B) {b : Nat → Nat} {i : Nat} : ∀ (k : Nat), (∀ t, t < k → 97 ≤ b (i + t) ∧ b (i + t) ≤ 122) → tk_nm B b i k < B ^ k
  | 0, _ => Nat.one_pos
  | k + 1, h => by
    have h1 := tk_nm_lt hB k (fun t ht => h t (by omega))
    have h2 := h k (by omega)
    show B * tk_nm B b i k + (b (i + k) - 96) < B ^ (k + 1)
    have h3 : B * (tk_nm B b i k + 1) ≤ B * B ^ k := Nat.mul_le_mul_left B h1
    rw [Nat.pow_succ, Nat.mul_comm (B ^ k) B]
    rw [Nat.mul_add] at h3
    omega
/-- which word it is: what the keys from 0 on make of a kind -/
def tk_kw (kw : Nat → Nat) (x : Nat) (t0 : Int32) : Nat → Int32
  | 0 => t0
  | k + 1 => if kw k = x then nI (20 + k) else tk_kw kw x t0 k
section Ky
variable {P : gc_Pr} {d : Nat} {s : gc_St} {Q : gc_TQ}
theorem cut_keys (hP : gc_Cl P) (hm : gc_Mo P) {kw : Nat → Nat} {x : Nat} {l1 l2 l3 t0 : Int32} (hJ : ∀ k, k < 10 → gc_J s 75 k = lN (kw k)) (hkw : ∀ k, k < 10 → kw k < 2 ^ 63) (hx : x < 2 ^ 63)
    (h : gc_T P d 0 0 182 179 [.ref 67, .int l1, .int l2, .int l3, .long (lN x), gc_u, .int (tk_kw kw x t0 10), .int (nI 10)] [] s Q) :
    gc_T P d 0 0 182 146 [.ref 67, .int l1, .int l2, .int l3, .long (lN x), gc_u, .int t0, .int 0] [] s Q := by
  have key : ∀ m k, k + m = 10 → gc_T P d 0 0 182 146 [.ref 67, .int l1, .int l2, .int l3, .long (lN x), gc_u, .int (tk_kw kw x t0 k), .int (nI k)] [] s Q := by
    intro m
    induction m with
    | zero =>
      intro k hk
      obtain rfl : k = 10 := by omega
      exact b_X11_cut_146 hP hm ⟨fun _ => h, fun y => absurd (by decide) y⟩
    | succ m ih =>
      intro k hk
      have hn := ih (k + 1) (by omega)
      refine b_X11_cut_146 hP hm ⟨fun y => ?_, fun _ => ⟨vp_in_nI (by omega) (by omega), ?_⟩⟩
      · rw [st_lit 10, nI_leI (by omega) (by omega)] at y
        omega
      · rw [nI_clamp (by omega), hJ k (by omega), lg_cmp0, pk_lEQ (hkw k (by omega)) hx]
        refine ⟨fun y => b_X11_cut_173 hP hm ?_, fun y => b_X11_cut_173 hP hm ?_⟩
        · rw [nI_1]
          unfold tk_kw at hn
          rw [if_neg y] at hn
          exact hn
        · rw [nI_1, st_lit 20, nI_add]
          unfold tk_kw at hn
          rw [if_pos y] at hn
          exact hn
  exact key 10 0 rfl
end Ky
