/-! Numbers of STOCKS and sets: what both sides do with them. -/
theorem st_and (a b : Nat) : nI a &&& nI b = nI (a &&& b) := by
  apply Int32.toBitVec_inj.1
  show BitVec.ofNat 32 a &&& BitVec.ofNat 32 b = BitVec.ofNat 32 (a &&& b)
  apply BitVec.eq_of_getLsbD_eq
  intro i hi
  simp [hi]
theorem st_or (a b : Nat) : nI a ||| nI b = nI (a ||| b) := by
  apply Int32.toBitVec_inj.1
  show BitVec.ofNat 32 a ||| BitVec.ofNat 32 b = BitVec.ofNat 32 (a ||| b)
  apply BitVec.eq_of_getLsbD_eq
  intro i hi
  simp [hi]
theorem st_xor (a b : Nat) : nI a ^^^ nI b = nI (a ^^^ b) := by
  apply Int32.toBitVec_inj.1
  show BitVec.ofNat 32 a ^^^ BitVec.ofNat 32 b = BitVec.ofNat 32 (a ^^^ b)
  apply BitVec.eq_of_getLsbD_eq
  intro i hi
  simp [hi]
theorem st_m1 : (-1 : Int32) = nI 4294967295 := by decide
theorem st_lit (n : Nat) : (OfNat.ofNat n : Int32) = nI n := rfl
/-- a shift to the right by a small number -/
theorem st_cnt : ∀ k, k < 32 → ((nI k &&& 31).toBitVec.smod 32).toNat = k := by decide +kernel
theorem st_shr {a k : Nat} (ha : a < 2 ^ 31) (hk : k < 32) : nI a >>> (nI k &&& 31) = nI (a / 2 ^ k) := pk_shrN ha _ k (st_cnt k hk)
theorem st_shl {a k : Nat} (hk : k < 32) (h : a * 2 ^ k < 2 ^ 32) : nI a <<< (nI k &&& 31) = nI (a * 2 ^ k) := pk_shlN _ k (st_cnt k hk) h
theorem st_and3 {a : Nat} (ha : a < 2 ^ 32) : nI a &&& 3 = nI (a % 4) := pk_andN ha 2 (by decide)
theorem st_and1 {a : Nat} (ha : a < 2 ^ 32) : nI a &&& 1 = nI (a % 2) := pk_andN ha 1 (by decide)
/-- one taken out, one come in; -1: it can't be -/
def st_less (a b : Nat) : Int32 := if st_in b a = true then nI (a - b) else -1
def st_plus (a b : Nat) : Int32 := if st_fit a b = true then nI (a + b) else -1
def st_ch (a t g : Nat) : Int32 := if st_in t a = true then st_plus (a - t) g else -1
theorem st_in_iff {a b : Nat} : st_in b a = true ↔ b % 4 ≤ a % 4 ∧ b / 4 % 4 ≤ a / 4 % 4 ∧ b / 16 % 4 ≤ a / 16 % 4 ∧ b / 64 % 4 ≤ a / 64 % 4 := by
  unfold st_in
  simp only [Bool.and_eq_true, Nat.ble_eq]
theorem st_fit_iff {a b : Nat} : st_fit a b = true ↔ a % 4 + b % 4 ≤ 3 ∧ a / 4 % 4 + b / 4 % 4 ≤ 3 ∧ a / 16 % 4 + b / 16 % 4 ≤ 3 ∧ a / 64 % 4 + b / 64 % 4 ≤ 3 := by
  unfold st_fit
  simp only [Bool.and_eq_true, Nat.ble_eq]
theorem st_in_le {a b : Nat} (ha : a < 256) (hb : b < 256) (h : st_in b a = true) : b ≤ a := st_inle a ha b hb h
theorem st_fit_lt {a b : Nat} (ha : a < 256) (hb : b < 256) (h : st_fit a b = true) : a + b < 256 := st_fitlt a ha b hb h
theorem st_fits {a b : Nat} (ha : a < 256) (hb : b < 256) : (((nI a &&& nI b) ||| ((nI a ||| nI b) &&& ((nI a + nI b) ^^^ (-1)))) &&& 170) = 0 ↔ st_fit a b = true := by
  rw [st_m1, nI_add, st_xor, st_or, st_and, st_and, st_or, st_lit 170, st_and, ← st_carry a ha b hb]
  have hlt : (((a &&& b) ||| ((a ||| b) &&& ((a + b) ^^^ 4294967295))) &&& 170) < 2 ^ 31 := Nat.lt_of_le_of_lt Nat.and_le_right (by decide)
  rw [show (0 : Int32) = nI 0 from rfl, nI_eq hlt (by decide)]
  simp
section St
variable {P : gc_Pr} {d : Nat} {s : gc_St} {Q : gc_TQ}
theorem sp_fits (hP : gc_Cl P) (hm : gc_Mo P) {a b : Nat} (ha : a < 256) (hb : b < 256) (h : Q (some (.int (if st_fit a b = true then 1 else 0))) s) : gc_T P d 0 0 168 0 [.int (nI a), .int (nI b), gc_u] [] s Q := by
  refine b_X10_fits_0 hP hm ⟨fun z => ?_, fun z => ?_⟩
  · rw [if_neg (fun y => z ((st_fits ha hb).mpr y))] at h
    exact h
  · rw [if_pos ((st_fits ha hb).mp z)] at h
    exact h
theorem sp_isWithin (hP : gc_Cl P) (hm : gc_Mo P) (hd : 1 ≤ d) {a b : Nat} (ha : a < 256) (hb : b < 256) (h : Q (some (.int (if st_in b a = true then 1 else 0))) s) : gc_T P d 0 0 169 0 [.int (nI b), .int (nI a)] [] s Q := by
  refine b_X10_isWithin_0 hP hm ⟨hd, ?_⟩
  rw [st_lit 255, pk_sub (by omega)]
  refine sp_fits hP hm hb (by omega) ?_
  rw [st_fit255 a ha b hb]
  by_cases z : st_in b a = true
  · rw [if_pos z] at h ⊢
    exact ⟨Or.inr rfl, h⟩
  · rw [if_neg z] at h ⊢
    exact ⟨Or.inl rfl, h⟩
theorem sp_exchange (hP : gc_Cl P) (hm : gc_Mo P) (hd : 2 ≤ d) {a t g : Nat} (ha : a < 256) (ht : t < 256) (hg : g < 256) (h : Q (some (.int (st_ch a t g))) s) : gc_T P d 0 0 171 0 [.int (nI a), .int (nI t), .int (nI g)] [] s Q := by
  refine b_X10_exchange_0 hP hm ⟨by omega, ?_⟩
  refine sp_isWithin hP hm (by omega) ha ht ?_
  unfold st_ch at h
  by_cases z : st_in t a = true
  · rw [if_pos z] at h ⊢
    have hle := st_in_le ha ht z
    refine ⟨fun y => absurd y (by decide), fun _ => ⟨by omega, ?_⟩⟩
    rw [pk_sub hle]
    refine sp_fits hP hm (by omega) hg ?_
    unfold st_plus at h
    by_cases w : st_fit (a - t) g = true
    · rw [if_pos w] at h ⊢
      refine ⟨fun _ => ?_, fun y => absurd y (by decide)⟩
      rw [nI_add]
      exact h
    · rw [if_neg w] at h ⊢
      exact ⟨fun y => absurd rfl y, fun _ => h⟩
  · rw [if_neg z] at h ⊢
    exact ⟨fun _ => h, fun y => absurd rfl y⟩
theorem st_dig {a j : Nat} (ha : a < 256) (hj : j < 4) : (nI a >>> (nI (2 * j) &&& 31)) &&& 3 = nI (a / 4 ^ j % 4) := by
  rw [st_shr (by omega) (by omega), st_and3 (Nat.lt_of_le_of_lt (Nat.div_le_self _ _) (by omega)), show (4 : Nat) ^ j = 2 ^ (2 * j) from by rw [Nat.pow_mul]]
theorem sp_countOf (hP : gc_Cl P) (hm : gc_Mo P) {a g : Nat} (ha : a < 256) (hg : g < 4) (h : Q (some (.int (nI (a / 4 ^ g % 4)))) s) : gc_T P d 0 0 164 0 [.int (nI a), .int (nI g)] [] s Q := by
  refine b_X10_countOf_0 hP hm ?_
  rw [st_lit 2, pk_mul, st_dig ha hg]
  exact h
/-- the reference's way: GROUND by GROUND -/
theorem sp_less (hP : gc_Cl P) (hm : gc_Mo P) {a b : Nat} (ha : a < 256) (hb : b < 256) (h : Q (some (.int (st_less a b))) s) : gc_T P d 0 0 213 0 [.int (nI a), .int (nI b), gc_u] [] s Q := by
  refine b_X11_less_0 hP hm ?_
  have key : ∀ n j, j + n = 4 → (∀ i, i < j → b / 4 ^ i % 4 ≤ a / 4 ^ i % 4) → gc_T P d 0 0 213 2 [.int (nI a), .int (nI b), .int (nI (2 * j))] [] s Q := by
    intro n
    induction n with
    | zero =>
      intro j hj hall
      obtain rfl : j = 4 := by omega
      have z : st_in b a = true := st_in_iff.mpr ⟨by simpa using hall 0 (by omega), by simpa using hall 1 (by omega), by simpa using hall 2 (by omega), by simpa using hall 3 (by omega)⟩
      refine b_X11_less_2 hP hm ⟨fun _ => ?_, fun y => absurd (by decide) y⟩
      unfold st_less at h
      rw [if_pos z] at h
      rw [pk_sub (st_in_le ha hb z)]
      exact h
    | succ n ih =>
      intro j hj hall
      refine b_X11_less_2 hP hm ⟨fun y => ?_, fun _ => ?_⟩
      · rw [st_lit 8, nI_leI (by omega) (by omega)] at y
        omega
      · rw [st_dig ha (by omega), st_dig hb (by omega), nI_leI (by omega) (by omega)]
        refine ⟨fun y => ?_, fun y => ?_⟩
        · rw [st_lit 2, nI_add, show 2 * j + 2 = 2 * (j + 1) by omega]
          refine ih (j + 1) (by omega) fun i hi => ?_
          by_cases e : i = j
          · rw [e]; exact y
          · exact hall i (by omega)
        · unfold st_less at h
          rw [if_neg] at h
          · exact h
          · intro z
            obtain ⟨h0, h1, h2, h3⟩ := st_in_iff.mp z
            match j, hj, y with
            | 0, _, y => exact y (by simpa using h0)
            | 1, _, y => exact y (by simpa using h1)
            | 2, _, y => exact y (by simpa using h2)
            | 3, _, y => exact y (by simpa using h3)
            | j + 4, hj, _ => omega
  exact key 4 0 (by omega) (fun i hi => by omega)
theorem sp_plus (hP : gc_Cl P) (hm : gc_Mo P) {a b : Nat} (ha : a < 256) (hb : b < 256) (h : Q (some (.int (st_plus a b))) s) : gc_T P d 0 0 214 0 [.int (nI a), .int (nI b), gc_u] [] s Q := by
  refine b_X11_plus_0 hP hm ?_
  have key : ∀ n j, j + n = 4 → (∀ i, i < j → a / 4 ^ i % 4 + b / 4 ^ i % 4 ≤ 3) → gc_T P d 0 0 214 2 [.int (nI a), .int (nI b), .int (nI (2 * j))] [] s Q := by
    intro n
    induction n with
    | zero =>
      intro j hj hall
      obtain rfl : j = 4 := by omega
      have z : st_fit a b = true := st_fit_iff.mpr ⟨by simpa using hall 0 (by omega), by simpa using hall 1 (by omega), by simpa using hall 2 (by omega), by simpa using hall 3 (by omega)⟩
      refine b_X11_plus_2 hP hm ⟨fun _ => ?_, fun y => absurd (by decide) y⟩
      unfold st_plus at h
      rw [if_pos z] at h
      rw [nI_add]
      exact h
    | succ n ih =>
      intro j hj hall
      refine b_X11_plus_2 hP hm ⟨fun y => ?_, fun _ => ?_⟩
      · rw [st_lit 8, nI_leI (by omega) (by omega)] at y
        omega
      · rw [st_dig ha (by omega), st_dig hb (by omega), nI_add, st_lit 3, nI_leI (by omega) (by omega)]
        refine ⟨fun y => ?_, fun y => ?_⟩
        · rw [st_lit 2, nI_add, show 2 * j + 2 = 2 * (j + 1) by omega]
          refine ih (j + 1) (by omega) fun i hi => ?_
          by_cases e : i = j
          · rw [e]; exact y
          · exact hall i (by omega)
        · unfold st_plus at h
          rw [if_neg] at h
          · exact h
          · intro z
            obtain ⟨h0, h1, h2, h3⟩ := st_fit_iff.mp z
            match j, hj, y with
            | 0, _, y => exact y (by simpa using h0)
            | 1, _, y => exact y (by simpa using h1)
            | 2, _, y => exact y (by simpa using h2)
            | 3, _, y => exact y (by simpa using h3)
            | j + 4, hj, _ => omega
  exact key 4 0 (by omega) (fun i hi => by omega)
theorem sp_changed (hP : gc_Cl P) (hm : gc_Mo P) (hd : 1 ≤ d) {a t g : Nat} (ha : a < 256) (ht : t < 256) (hg : g < 256) (h : Q (some (.int (st_ch a t g))) s) : gc_T P d 0 0 215 0 [.int (nI a), .int (nI t), .int (nI g), gc_u] [] s Q := by
  refine b_X11_changed_0 hP hm ⟨hd, ?_⟩
  refine sp_less hP hm ha ht ?_
  unfold st_ch at h
  unfold st_less
  by_cases z : st_in t a = true
  · rw [if_pos z] at h ⊢
    have hne : ¬ nI (a - t) = -1 := by
      rw [st_m1]
      intro e
      have e2 := congrArg (fun x : Int32 => x.toBitVec.toNat) e
      rw [pk_tn (by omega), pk_tn (by decide)] at e2
      omega
    refine ⟨fun _ => ⟨hd, ?_⟩, fun y => absurd y hne⟩
    exact sp_plus hP hm (by omega) hg h
  · rw [if_neg z] at h ⊢
    exact ⟨fun y => absurd rfl y, fun _ => h⟩
end St
