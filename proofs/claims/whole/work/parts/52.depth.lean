/-! The law told, its MOVES, DEPTH: what both sides are tied to. -/
/-- the lesser of two depths, 0: none -/
def dp_lst (x y : Nat) : Nat := if x = 0 ∨ (y ≠ 0 ∧ y < x) then y else x
def dp_one (x : Nat) : Nat := if x = 0 then 0 else x + 1
def dp_both (x y : Nat) : Nat := if x = 0 ∨ y = 0 then 0 else (if y < x then x else y) + 1
/-- x is no worse than y -/
def dp_bt (x y : Nat) : Prop := y ≠ 0 → x ≠ 0 ∧ x ≤ y
theorem dp_bt_refl (x : Nat) : dp_bt x x := fun h => ⟨h, Nat.le_refl _⟩
theorem dp_bt_trans {x y z : Nat} (h : dp_bt x y) (g : dp_bt y z) : dp_bt x z := fun e => ⟨(h (g e).1).1, Nat.le_trans (h (g e).1).2 (g e).2⟩
theorem dp_bt_0 (x : Nat) : dp_bt x 0 := fun h => absurd rfl h
theorem dp_bt_eq {x y : Nat} (h : dp_bt x y) (g : dp_bt y x) : x = y := by
  unfold dp_bt at h g
  omega
theorem dp_lst_l (x y : Nat) : dp_bt (dp_lst x y) x := by
  unfold dp_lst dp_bt
  split <;> omega
theorem dp_lst_r (x y : Nat) : dp_bt (dp_lst x y) y := by
  unfold dp_lst dp_bt
  split <;> omega
theorem dp_lst_or (x y : Nat) : dp_lst x y = x ∨ dp_lst x y = y := by
  unfold dp_lst
  split
  · exact Or.inr rfl
  · exact Or.inl rfl
/-- how many below n -/
def dp_ct (f : Nat → Bool) : Nat → Nat
  | 0 => 0
  | n + 1 => dp_ct f n + (if f n = true then 1 else 0)
theorem dp_ct_le (f : Nat → Bool) : ∀ n, dp_ct f n ≤ n
  | 0 => Nat.le_refl _
  | n + 1 => by
    have := dp_ct_le f n
    unfold dp_ct
    split <;> omega
theorem dp_ct_mono {f g : Nat → Bool} : ∀ n, (∀ i, i < n → f i = true → g i = true) → dp_ct f n ≤ dp_ct g n
  | 0, _ => Nat.le_refl _
  | n + 1, h => by
    have h1 := dp_ct_mono n (fun i hi => h i (by omega))
    have h2 := h n (by omega)
    unfold dp_ct
    by_cases e : f n = true
    · rw [if_pos e, if_pos (h2 e)]
      omega
    · rw [if_neg e]
      omega
theorem dp_ct_lt {f g : Nat → Bool} : ∀ n, (∀ i, i < n → f i = true → g i = true) → (∃ i, i < n ∧ g i = true ∧ f i = false) → dp_ct f n < dp_ct g n
  | 0, _, ⟨i, hi, _⟩ => absurd hi (Nat.not_lt_zero i)
  | n + 1, h, ⟨i, hi, hg, hf⟩ => by
    have h1 := dp_ct_mono n (fun i hi => h i (by omega))
    have h2 := h n (by omega)
    by_cases e : i = n
    · subst e
      show dp_ct f i + (if f i = true then 1 else 0) < dp_ct g i + (if g i = true then 1 else 0)
      rw [if_neg (by rw [hf]; decide), if_pos hg]
      omega
    · have h3 := dp_ct_lt n (fun i hi => h i (by omega)) ⟨i, by omega, hg, hf⟩
      show dp_ct f n + (if f n = true then 1 else 0) < dp_ct g n + (if g n = true then 1 else 0)
      by_cases e2 : f n = true
      · rw [if_pos e2, if_pos (h2 e2)]
        omega
      · rw [if_neg e2]
        omega
theorem dp_ct_congr {f g : Nat → Bool} : ∀ n, (∀ i, i < n → f i = g i) → dp_ct f n = dp_ct g n
  | 0, _ => rfl
  | n + 1, h => by
    show dp_ct f n + (if f n = true then 1 else 0) = dp_ct g n + (if g n = true then 1 else 0)
    rw [dp_ct_congr n (fun i hi => h i (by omega)), h n (by omega)]
theorem dp_ct_1 {f : Nat → Bool} {i n : Nat} (hi : i < n) (hf : f i = true) : 1 ≤ dp_ct f n := by
  have := dp_ct_lt (f := fun _ => false) (g := f) n (fun i _ h => absurd h (by decide)) ⟨i, hi, hf, rfl⟩
  omega
theorem dp_ct_0 {f : Nat → Bool} {n : Nat} (h : dp_ct f n = 0) {i : Nat} (hi : i < n) : f i = false := by
  cases e : f i with
  | false => rfl
  | true =>
    have := dp_ct_1 hi e
    omega
/-- a pass over all: what was right stays so, and one more is right, if any was not -/
theorem dp_pass {n : Nat} {D d d' : Nat → Nat} (hb : ∀ i, i < n → dp_bt (d' i) (d i)) (hs : ∀ i, i < n → dp_bt (D i) (d i)) (hs' : ∀ i, i < n → dp_bt (D i) (d' i))
    (hr : ∀ i, i < n → D i ≠ 0 → d i ≠ D i → ∃ js : List Nat, (∀ j, j ∈ js → j < n ∧ D j < D i) ∧ ((∀ j, j ∈ js → d j = D j) → d' i = D i))
    (hex : ∃ i, i < n ∧ d i ≠ D i) : dp_ct (fun i => !decide (d' i = D i)) n < dp_ct (fun i => !decide (d i = D i)) n := by
  have hfin : ∀ i, i < n → d i = D i → d' i = D i := by
    intro i hi e
    have h1 := hb i hi
    rw [e] at h1
    exact dp_bt_eq h1 (hs' i hi)
  obtain ⟨v, ⟨i, hi, hne, hv⟩, hleast⟩ := pk_least (fun v => ∃ i, i < n ∧ d i ≠ D i ∧ D i = v) (hex.elim fun i h => ⟨D i, i, h.1, h.2, rfl⟩)
  have hD : D i ≠ 0 := by
    intro e
    have h1 := hs i hi
    unfold dp_bt at h1
    by_cases e2 : d i = 0
    · exact hne (by rw [e, e2])
    · exact (h1 e2).1 e
  obtain ⟨js, hj, hjs⟩ := hr i hi hD hne
  have hi2 : d' i = D i := hjs fun j hm => by
    by_cases e : d j = D j
    · exact e
    · exact absurd ⟨j, (hj j hm).1, e, rfl⟩ (hleast (D j) (by rw [← hv]; exact (hj j hm).2))
  refine dp_ct_lt n (fun j hjn h => ?_) ⟨i, hi, by simp [hne], by simp [hi2]⟩
  simp only [Bool.not_eq_true', decide_eq_false_iff_not] at h ⊢
  exact fun e => h (hfin j hjn e)
/-- no value grows beyond what there was and one for each that is no longer 0 -/
def dp_nz (d : Nat → Nat) (n : Nat) : Nat := dp_ct (fun i => !decide (d i = 0)) n
theorem dp_nz_up {d : Nat → Nat} {n i v : Nat} (hi : i < n) (h0 : d i = 0) (hv : v ≠ 0) : dp_nz d n + 1 ≤ dp_nz (fun j => if j = i then v else d j) n := by
  refine dp_ct_lt n (fun j _ h => ?_) ⟨i, hi, by simp [hv], by simp [h0]⟩
  by_cases e : j = i
  · simp [e, hv]
  · simp only [if_neg e]
    exact h
theorem dp_nz_le {d : Nat → Nat} {n i v : Nat} (hv : v ≠ 0) : dp_nz d n ≤ dp_nz (fun j => if j = i then v else d j) n := by
  refine dp_ct_mono n (fun j _ h => ?_)
  by_cases e : j = i
  · simp [e, hv]
  · simp only [if_neg e]
    exact h
/-- a value no more than one above another comes in where it is less -/
theorem dp_nz_step {d : Nat → Nat} {n i v K : Nat} (hi : i < n) (hK : ∀ j, j < n → d j ≤ K + dp_nz d n) (hv : v ≤ K + dp_nz d n + 1) : ∀ j, j < n → (if j = i then dp_lst (d i) v else d j) ≤ K + dp_nz (fun j => if j = i then dp_lst (d i) v else d j) n := by
  intro j hj
  by_cases h0 : dp_lst (d i) v = d i
  · rw [h0]
    have e : (fun j => if j = i then d i else d j) = d := by
      funext k
      by_cases e : k = i
      · rw [if_pos e, e]
      · rw [if_neg e]
    have e2 : (if j = i then d i else d j) = d j := congrFun e j
    rw [e, e2]
    exact hK j hj
  · have h1 : dp_lst (d i) v = v := (dp_lst_or (d i) v).resolve_left h0
    rw [h1]
    rw [h1] at h0
    by_cases h2 : d i = 0
    · have hv0 : v ≠ 0 := fun e => h0 (by rw [h2, e])
      have h3 := dp_nz_up hi h2 hv0
      by_cases e : j = i
      · rw [if_pos e]
        omega
      · rw [if_neg e]
        have := hK j hj
        omega
    · have h4 := dp_lst_l (d i) v
      rw [h1] at h4
      have h5 := h4 h2
      have h3 := dp_nz_le (d := d) (n := n) (i := i) h5.1
      by_cases e : j = i
      · rw [if_pos e]
        have := hK i hi
        omega
      · rw [if_neg e]
        have := hK j hj
        omega
theorem dp_nz_n (d : Nat → Nat) (n : Nat) : dp_nz d n ≤ n := dp_ct_le _ n
/-! The law, its MOVES. -/
abbrev ld_W : Type := Nat → Nat → Nat
abbrev ld_g (W : ld_W) : Nat := W 0 0
abbrev ld_o (W : ld_W) : Nat := W 0 1
abbrev ld_b (W : ld_W) : Nat := W 0 2
abbrev ld_c (W : ld_W) : Nat := W 0 3
abbrev ld_p (W : ld_W) : Nat := W 0 4
abbrev ld_pr (W : ld_W) : Nat → Nat := W 1
abbrev ld_tk (W : ld_W) : Nat → Nat := W 2
abbrev ld_gv (W : ld_W) : Nat → Nat := W 3
abbrev ld_ot (W : ld_W) : Nat → Nat := W 4
abbrev ld_wo (W : ld_W) : Nat → Nat := W 5
abbrev ld_ro (W : ld_W) : Nat → Nat := W 6
abbrev ld_kd (W : ld_W) : Nat → Nat := W 7
abbrev ld_fi (W : ld_W) : Nat → Nat := W 8
abbrev ld_se (W : ld_W) : Nat → Nat := W 9
abbrev ld_lo (W : ld_W) : Nat → Nat := W 10
/-- how many STOCKS -/
abbrev ld_N (W : ld_W) : Nat := 4 ^ ld_g W
abbrev ld_B (W : ld_W) : Nat := 2 ^ ld_b W
def ld_pt (W : ld_W) (p : Nat) : Prop :=
  (ld_kd W p ≤ 2 ∧ ld_lo W p = p ∧ (ld_kd W p = 0 → ld_fi W p < ld_g W)) ∨
  ((ld_kd W p = 3 ∨ ld_kd W p = 4 ∨ ld_kd W p = 5) ∧ ld_fi W p < ld_se W p ∧ ld_se W p + 1 = p ∧ ld_lo W p = ld_lo W (ld_fi W p) ∧ ld_lo W (ld_se W p) = ld_fi W p + 1) ∨
  (ld_kd W p = 6 ∧ ld_fi W p + 1 = p ∧ ld_lo W p = ld_lo W (ld_fi W p)) ∨
  (ld_kd W p = 7 ∧ ld_fi W p + 1 = p ∧ ld_lo W p = ld_lo W (ld_fi W p) ∧ ld_se W p < ld_N W)
def ld_ok (W : ld_W) : Prop :=
  (ld_g W ≤ 4 ∧ ld_o W ≤ 3 ∧ ld_b W ≤ 3 ∧ ld_c W ≤ 6 ∧ ld_p W ≤ 24) ∧
  (∀ k, k < ld_o W ∨ (3 ≤ k ∧ k < 3 + ld_b W) → ld_tk W k < ld_N W ∧ ld_gv W k < ld_N W ∧ ld_ot W k ≤ ld_N W) ∧
  (∀ k, k < ld_o W → ld_ot W k = 0) ∧
  (∀ c, c < ld_c W → ld_ro W c < ld_p W ∧ ld_wo W c ≤ 99) ∧
  (∀ g, g < ld_g W → 1 ≤ ld_pr W g ∧ ld_pr W g ≤ 99) ∧
  (∀ p, p < ld_p W → ld_pt W p)
theorem ld_N_le {W : ld_W} (h : ld_ok W) : ld_N W ≤ 256 := Nat.le_trans (Nat.pow_le_pow_right (by decide) h.1.1) (by decide)
theorem ld_B_le {W : ld_W} (h : ld_ok W) : ld_B W ≤ 8 := Nat.le_trans (Nat.pow_le_pow_right (by decide) h.1.2.2.1) (by decide)
theorem ld_lo_le {W : ld_W} (h : ld_ok W) : ∀ p, p < ld_p W → ld_lo W p ≤ p := by
  intro p
  induction p using Nat.strongRecOn with
  | ind p ih =>
    intro hp
    rcases h.2.2.2.2.2 p hp with ⟨_, e, _⟩ | ⟨_, e1, e2, e3, _⟩ | ⟨_, e1, e3⟩ | ⟨_, e1, e3, _⟩
    · omega
    · have := ih _ (by omega : ld_fi W p < p) (by omega)
      omega
    · have := ih _ (by omega : ld_fi W p < p) (by omega)
      omega
    · have := ih _ (by omega : ld_fi W p < p) (by omega)
      omega
/-- what stands in a POINT is all from its least on -/
theorem ld_lo_in {W : ld_W} (h : ld_ok W) : ∀ p, p < ld_p W → ∀ q, ld_lo W p ≤ q → q ≤ p → ld_lo W p ≤ ld_lo W q := by
  intro p
  induction p using Nat.strongRecOn with
  | ind p ih =>
    intro hp q h1 h2
    by_cases e : q = p
    · rw [e]
      exact Nat.le_refl _
    · rcases h.2.2.2.2.2 p hp with ⟨_, e, _⟩ | ⟨_, e1, e2, e3, e4⟩ | ⟨_, e1, e3⟩ | ⟨_, e1, e3, _⟩
      · omega
      · by_cases e5 : q ≤ ld_fi W p
        · have := ih _ (by omega : ld_fi W p < p) (by omega) q (by omega) e5
          omega
        · have := ih _ (by omega : ld_se W p < p) (by omega) q (by omega) (by omega)
          have := ld_lo_le h (ld_fi W p) (by omega)
          omega
      · have := ih _ (by omega : ld_fi W p < p) (by omega) q (by omega) (by omega)
        omega
      · have := ih _ (by omega : ld_fi W p < p) (by omega) q (by omega) (by omega)
        omega
/-- some of a set -/
def sb_in (c b : Nat) : Bool := Nat.ble (c % 2) (b % 2) && (Nat.ble (c / 2 % 2) (b / 2 % 2) && Nat.ble (c / 4 % 2) (b / 4 % 2))
def mv_ss (s : Nat) : List Nat := (List.range (s + 1)).filter (fun u => st_in u s)
def mv_bs (b : Nat) : List Nat := (List.range (b + 1)).filter (fun c => sb_in c b)
/-- a step: its number, what it leads to, what SPLIT gives -/
abbrev mv_T : Type := Nat × List (Nat × Nat × Nat) × Int32 × Int32
def mv_own (W : ld_W) (p s b : Nat) : List mv_T := match ld_kd W p with
  | 0 => if s = 4 ^ ld_fi W p then [(0, [], -1, -1)] else []
  | 1 => if s = 0 then [(1, [], -1, -1)] else []
  | 2 => [(2, [], -1, -1)]
  | 3 => [(3, [(ld_fi W p, s, b)], -1, -1), (4, [(ld_se W p, s, b)], -1, -1)]
  | 4 => [(5, [(ld_fi W p, s, b), (ld_se W p, s, b)], -1, -1)]
  | 5 => (mv_ss s).flatMap fun u => (mv_bs b).map fun c => (6, [(ld_fi W p, u, c), (ld_se W p, s - u, b - c)], nI u, nI c)
  | 6 => if s = 0 then [(7, [(ld_fi W p, 0, 0)], -1, -1)] else []
  | _ => if st_fit s (ld_se W p) = true then [(8, [(ld_fi W p, s + ld_se W p, b)], -1, -1)] else []
def dp_ch (a t g : Nat) : Option Nat := if st_in t a = true ∧ st_fit (a - t) g = true then some (a - t + g) else none
def mv_oath (W : ld_W) (o p s b k : Nat) : Option mv_T := if o / 2 ^ k % 2 = 1 then (dp_ch s (ld_tk W k) (ld_gv W k)).map (fun t => (10 + k, [(p, t, b)], -1, -1)) else none
def mv_barg (W : ld_W) (p s b k : Nat) : Option mv_T := if b / 2 ^ k % 2 = 1 then (match dp_ch s (ld_tk W (3 + k)) (ld_gv W (3 + k)) with
  | none => none
  | some t => (match ld_ot W (3 + k) with
    | 0 => some (20 + k, [(p, t, b - 2 ^ k)], -1, -1)
    | x + 1 => (dp_ch s (ld_tk W (3 + k)) x).map (fun t2 => (20 + k, [(p, t, b - 2 ^ k), (p, t2, b - 2 ^ k)], -1, -1)))) else none
def mv_all (W : ld_W) (o p s b : Nat) : List mv_T := mv_own W p s b ++ ((List.range (ld_o W)).filterMap (mv_oath W o p s b) ++ (List.range (ld_b W)).filterMap (mv_barg W p s b))
theorem dp_ch_lt {a t g x : Nat} (ha : a < 256) (hg : g < 256) (h : dp_ch a t g = some x) : x < 256 := by
  unfold dp_ch at h
  split at h
  · rename_i z
    have := st_fit_lt (a := a - t) (b := g) (by omega) hg z.2
    simp only [Option.some.injEq] at h
    omega
  · exact absurd h (by simp)
theorem st_fitN : ∀ n, n < 5 → ∀ a, a < 4 ^ n → ∀ b, b < 4 ^ n → st_fit a b = true → a + b < 4 ^ n := by decide +kernel
theorem ld_lt {W : ld_W} (h : ld_ok W) {a b : Nat} (ha : a < ld_N W) (hb : b < ld_N W) (hf : st_fit a b = true) : a + b < ld_N W := by
  exact st_fitN (ld_g W) (Nat.lt_succ_of_le h.1.1) a ha b hb hf
theorem dp_ch_N {W : ld_W} (h : ld_ok W) {a t g x : Nat} (ha : a < ld_N W) (hg : g < ld_N W) (e : dp_ch a t g = some x) : x < ld_N W := by
  unfold dp_ch at e
  split at e
  · rename_i z
    have := ld_lt h (a := a - t) (b := g) (by omega) hg z.2
    simp only [Option.some.injEq] at e
    omega
  · exact absurd e (by simp)
/-- sets of three -/
theorem sb_self : ∀ b, b < 8 → sb_in b b = true := by decide
theorem sb_zero : ∀ b, b < 8 → sb_in 0 b = true := by decide
theorem sb_le : ∀ b, b < 8 → ∀ c, c < 8 → sb_in c b = true → c ≤ b ∧ sb_in (b - c) b = true := by decide
theorem sb_tr : ∀ b, b < 8 → ∀ c, c < 8 → sb_in c b = true → ∀ e, e < 8 → sb_in e c = true → sb_in e b = true := by decide
theorem sb_bit : ∀ b, b < 8 → ∀ k, k < 3 → b / 2 ^ k % 2 = 1 → 2 ^ k ≤ b ∧ sb_in (b - 2 ^ k) b = true ∧ b - 2 ^ k ≠ b := by decide
def sb_n (b : Nat) : Nat := b % 2 + b / 2 % 2 + b / 4 % 2
theorem sb_n_le : ∀ b, b < 8 → sb_n b ≤ 3 := by decide
theorem sb_n_in : ∀ b, b < 8 → ∀ c, c < 8 → sb_in c b = true → sb_n c ≤ sb_n b := by decide
theorem sb_n_bit : ∀ b, b < 8 → ∀ k, k < 3 → b / 2 ^ k % 2 = 1 → sb_n (b - 2 ^ k) + 1 = sb_n b := by decide
theorem mv_ss_mem {s u : Nat} (hs : s < 256) : u ∈ mv_ss s ↔ st_in u s = true ∧ u < 256 := by
  unfold mv_ss
  rw [List.mem_filter, List.mem_range]
  constructor
  · rintro ⟨h1, h2⟩
    exact ⟨h2, by omega⟩
  · rintro ⟨h1, h2⟩
    have := st_in_le hs h2 h1
    exact ⟨by omega, h1⟩
theorem mv_bs_mem {b c : Nat} (hb : b < 8) : c ∈ mv_bs b ↔ sb_in c b = true ∧ c < 8 := by
  unfold mv_bs
  rw [List.mem_filter, List.mem_range]
  constructor
  · rintro ⟨h1, h2⟩
    exact ⟨h2, by omega⟩
  · rintro ⟨h1, h2⟩
    have := sb_le b hb c h2 h1
    exact ⟨by omega, h1⟩
theorem st_sub_in : ∀ a, a < 256 → ∀ b, b < 256 → st_in b a = true → st_in (a - b) a = true := by decide +kernel
