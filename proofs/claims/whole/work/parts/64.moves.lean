/-! MOVES: how many, by numbers. -/
def A9 (q k : Nat) : Bool := Nat.beq q 32 && Nat.beq k 9
def A69 (q k : Nat) : Bool := Nat.beq q 32 && (Nat.ble 6 k && Nat.ble k 9)
def A32 (q _ : Nat) : Bool := Nat.beq q 32
def B33 (a : Nat) : Bool := Nat.ble 33 a && Nat.ble a 35
def B0 (_ : Nat) : Bool := false
theorem cl_C_fr {A : Nat → Nat → Bool} {B : Nat → Bool} {W : ld_W} {L : Nat} {s t : gc_St} (h : cl_C W L s) (g : fr A B s t) (hA : ∀ k, A 11 k = false ∧ A 54 k = false) (hB : ∀ a, a = 0 ∨ (12 ≤ a ∧ a ≤ 23) ∨ a = 27 ∨ (55 ≤ a ∧ a ≤ 66) → B a = false) : cl_C W L t := by
  refine ⟨h.1, (fr_lw g).trans h.2.1, cl_law_of (s := s) ?_ (fun j => fr_I g (hB _ ?_)) h.2.2.1, h.2.2.2.1, fun k hk st hst => ?_⟩
  · funext k
    rcases h.1 with e | e
    · rw [e]
      exact fr_F g (hA k).1
    · rw [e]
      exact fr_F g (hA k).2
  · have := cl_rS_set h.1 j
    omega
  · rw [fr_I g (hB 27 (by omega))]
    exact h.2.2.2.2 k hk st hst
theorem cl_rows_fr {A : Nat → Nat → Bool} {B : Nat → Bool} {W : ld_W} {v : Nat} {s t : gc_St} (h : cl_rows W v s) (g : fr A B s t) (hA : A 10 1 = false) (hB : ∀ a, a = 24 ∨ 116 ≤ a → B a = false) (hp : ld_p W ≤ 24) : cl_rows W v t := by
  obtain ⟨r1, r2, ⟨r3, r5, r6⟩, r7⟩ := h
  have eY := fr_Y g
  have en := fr_n g
  have eD := fr_D g
  have eb := fr_be g
  have e24 := fr_I g (hB 24 (Or.inl rfl))
  refine ⟨(fr_F g hA).trans r1, fun i hi => by rw [e24]; exact r2 i hi, ⟨by rw [eb, en]; exact r3, fun i a hi e => ?_, fun i j a hi hj e1 e2 => ?_⟩, fun o p b ho hp' hb hv => ?_⟩
  · rw [eY] at e
    rw [en, eD, eb]
    exact r5 i a hi e
  · rw [eY] at e1 e2
    exact r6 i j a hi hj e1 e2
  · rw [e24] at hv ⊢
    obtain ⟨⟨a', y1, y2⟩, y3⟩ := r7 o p b ho hp' hb hv
    refine ⟨⟨a', by rw [eY]; exact y1, fun st hst => ?_⟩, y3⟩
    rw [fr_I g (hB a' (Or.inr (r5 _ _ (cl_num_lt ho (by omega) hb) y1).1))]
    exact y2 st hst
/-- the class's law and its rows, as the MOVES use them -/
def mvS (W : ld_W) (L v : Nat) (s : gc_St) : Prop := cl_C W L s ∧ cl_rows W v s
theorem mvS_fr {A : Nat → Nat → Bool} {B : Nat → Bool} {W : ld_W} {L v : Nat} {s t : gc_St} (h : mvS W L v s) (g : fr A B s t) (hA : A 10 1 = false ∧ ∀ k, A 11 k = false ∧ A 54 k = false) (hB : ∀ a, a = 0 ∨ (12 ≤ a ∧ a ≤ 24) ∨ a = 27 ∨ (55 ≤ a ∧ a ≤ 66) ∨ 116 ≤ a → B a = false) : mvS W L v t :=
  ⟨cl_C_fr h.1 g hA.2 (fun a z => hB a (by omega)), cl_rows_fr h.2 g hA.1 (fun a z => hB a (by omega)) h.1.2.2.2.1.1.2.2.2.2⟩
theorem hA32 : A32 10 1 = false ∧ ∀ k, A32 11 k = false ∧ A32 54 k = false := ⟨rfl, fun _ => ⟨rfl, rfl⟩⟩
theorem hA69 : A69 10 1 = false ∧ ∀ k, A69 11 k = false ∧ A69 54 k = false := ⟨rfl, fun _ => ⟨rfl, rfl⟩⟩
theorem nble {a b : Nat} (h : b < a) : Nat.ble a b = false := by
  cases e : Nat.ble a b with
  | false => rfl
  | true => exact absurd (Nat.le_of_ble_eq_true e) (by omega)
theorem hB33 : ∀ a, a = 0 ∨ (12 ≤ a ∧ a ≤ 24) ∨ a = 27 ∨ (55 ≤ a ∧ a ≤ 66) ∨ 116 ≤ a → B33 a = false := by
  intro a h
  unfold B33
  rcases Nat.lt_or_ge a 33 with e | e
  · rw [nble e]
    rfl
  · rw [nble (show 35 < a by omega), Bool.and_false]
/-! SPLITS by their number. -/
def ssn (s : Nat) : Nat := (s % 4 + 1) * (s / 4 % 4 + 1) * (s / 16 % 4 + 1) * (s / 64 % 4 + 1)
def ssd (s r : Nat) : Nat := r % (s % 4 + 1) + 4 * (r / (s % 4 + 1) % (s / 4 % 4 + 1)) + 16 * (r / (s % 4 + 1) / (s / 4 % 4 + 1) % (s / 16 % 4 + 1)) + 64 * (r / (s % 4 + 1) / (s / 4 % 4 + 1) / (s / 16 % 4 + 1) % (s / 64 % 4 + 1))
theorem mv_ss_eq : ∀ s, s < 256 → mv_ss s = (List.range (ssn s)).map (ssd s) := by decide +kernel
def bsc (b i : Nat) : Nat → Nat
  | 0 => 0
  | k + 1 => if b / 2 ^ k % 2 = 1 then bsc b i k + (i / 2 ^ (sb_n (b % 2 ^ k)) % 2) * 2 ^ k else bsc b i k
theorem mv_bs_eq : ∀ b, b < 8 → mv_bs b = (List.range (2 ^ sb_n b)).map (fun i => bsc b i 3) := by decide +kernel
theorem sb_nk : ∀ b, b < 8 → ∀ k, k < 3 → sb_n (b % 2 ^ (k + 1)) = sb_n (b % 2 ^ k) + (if b / 2 ^ k % 2 = 1 then 1 else 0) := by decide
theorem bit_or : ∀ k, k < 3 → ∀ c, c < 2 ^ k → ∀ x, x < 2 → c ||| (x * 2 ^ k) = c + x * 2 ^ k := by decide +kernel
theorem dig_or : ∀ g, g < 4 → ∀ u, u < 4 ^ g → ∀ x, x < 4 → u ||| (x * 4 ^ g) = u + x * 4 ^ g := by decide +kernel
theorem bit_ct : ∀ b, b < 8 → (((((((((nI b) - ((((nI b).toUInt32 >>> ((1 : Int32).toUInt32 &&& Int32.toUInt32 31)).toInt32) &&& 1431655765)) &&& 858993459) + (((((nI b) - ((((nI b).toUInt32 >>> ((1 : Int32).toUInt32 &&& Int32.toUInt32 31)).toInt32) &&& 1431655765)).toUInt32 >>> ((2 : Int32).toUInt32 &&& Int32.toUInt32 31)).toInt32) &&& 858993459)) + ((((((nI b) - ((((nI b).toUInt32 >>> ((1 : Int32).toUInt32 &&& Int32.toUInt32 31)).toInt32) &&& 1431655765)) &&& 858993459) + (((((nI b) - ((((nI b).toUInt32 >>> ((1 : Int32).toUInt32 &&& Int32.toUInt32 31)).toInt32) &&& 1431655765)).toUInt32 >>> ((2 : Int32).toUInt32 &&& Int32.toUInt32 31)).toInt32) &&& 858993459)).toUInt32 >>> ((4 : Int32).toUInt32 &&& Int32.toUInt32 31)).toInt32)) &&& 252645135) + ((((((((nI b) - ((((nI b).toUInt32 >>> ((1 : Int32).toUInt32 &&& Int32.toUInt32 31)).toInt32) &&& 1431655765)) &&& 858993459) + (((((nI b) - ((((nI b).toUInt32 >>> ((1 : Int32).toUInt32 &&& Int32.toUInt32 31)).toInt32) &&& 1431655765)).toUInt32 >>> ((2 : Int32).toUInt32 &&& Int32.toUInt32 31)).toInt32) &&& 858993459)) + ((((((nI b) - ((((nI b).toUInt32 >>> ((1 : Int32).toUInt32 &&& Int32.toUInt32 31)).toInt32) &&& 1431655765)) &&& 858993459) + (((((nI b) - ((((nI b).toUInt32 >>> ((1 : Int32).toUInt32 &&& Int32.toUInt32 31)).toInt32) &&& 1431655765)).toUInt32 >>> ((2 : Int32).toUInt32 &&& Int32.toUInt32 31)).toInt32) &&& 858993459)).toUInt32 >>> ((4 : Int32).toUInt32 &&& Int32.toUInt32 31)).toInt32)) &&& 252645135).toUInt32 >>> ((8 : Int32).toUInt32 &&& Int32.toUInt32 31)).toInt32)) + (((((((((nI b) - ((((nI b).toUInt32 >>> ((1 : Int32).toUInt32 &&& Int32.toUInt32 31)).toInt32) &&& 1431655765)) &&& 858993459) + (((((nI b) - ((((nI b).toUInt32 >>> ((1 : Int32).toUInt32 &&& Int32.toUInt32 31)).toInt32) &&& 1431655765)).toUInt32 >>> ((2 : Int32).toUInt32 &&& Int32.toUInt32 31)).toInt32) &&& 858993459)) + ((((((nI b) - ((((nI b).toUInt32 >>> ((1 : Int32).toUInt32 &&& Int32.toUInt32 31)).toInt32) &&& 1431655765)) &&& 858993459) + (((((nI b) - ((((nI b).toUInt32 >>> ((1 : Int32).toUInt32 &&& Int32.toUInt32 31)).toInt32) &&& 1431655765)).toUInt32 >>> ((2 : Int32).toUInt32 &&& Int32.toUInt32 31)).toInt32) &&& 858993459)).toUInt32 >>> ((4 : Int32).toUInt32 &&& Int32.toUInt32 31)).toInt32)) &&& 252645135) + ((((((((nI b) - ((((nI b).toUInt32 >>> ((1 : Int32).toUInt32 &&& Int32.toUInt32 31)).toInt32) &&& 1431655765)) &&& 858993459) + (((((nI b) - ((((nI b).toUInt32 >>> ((1 : Int32).toUInt32 &&& Int32.toUInt32 31)).toInt32) &&& 1431655765)).toUInt32 >>> ((2 : Int32).toUInt32 &&& Int32.toUInt32 31)).toInt32) &&& 858993459)) + ((((((nI b) - ((((nI b).toUInt32 >>> ((1 : Int32).toUInt32 &&& Int32.toUInt32 31)).toInt32) &&& 1431655765)) &&& 858993459) + (((((nI b) - ((((nI b).toUInt32 >>> ((1 : Int32).toUInt32 &&& Int32.toUInt32 31)).toInt32) &&& 1431655765)).toUInt32 >>> ((2 : Int32).toUInt32 &&& Int32.toUInt32 31)).toInt32) &&& 858993459)).toUInt32 >>> ((4 : Int32).toUInt32 &&& Int32.toUInt32 31)).toInt32)) &&& 252645135).toUInt32 >>> ((8 : Int32).toUInt32 &&& Int32.toUInt32 31)).toInt32)).toUInt32 >>> ((16 : Int32).toUInt32 &&& Int32.toUInt32 31)).toInt32)) &&& 63) = nI (sb_n b) := by decide +kernel
theorem mv_len5 {s b : Nat} (hs : s < 256) (hb : b < 8) {f : Nat → Nat → mv_T} : ((mv_ss s).flatMap fun u => (mv_bs b).map fun c => f u c).length = ssn s * 2 ^ sb_n b := by
  rw [List.length_flatMap]
  have e : (List.map (fun u => ((mv_bs b).map fun c => f u c).length) (mv_ss s)) = List.replicate (ssn s) (2 ^ sb_n b) := by
    rw [mv_ss_eq s hs, mv_bs_eq b hb]
    apply List.ext_getElem?
    intro i
    by_cases hi : i < ssn s
    · simp [hi]
    · simp [hi]
  rw [e, List.sum_replicate_nat]
theorem ssn_le : ∀ s, s < 256 → 1 ≤ ssn s ∧ ssn s ≤ 256 := by decide +kernel
theorem sb_p2 : ∀ b, b < 8 → 1 ≤ 2 ^ sb_n b ∧ 2 ^ sb_n b ≤ 8 := by decide
/-- a list of lists of one length -/
theorem fm_get {α β : Type} {n : Nat} (hn : 0 < n) {g : α → List β} (hg : ∀ a, (g a).length = n) : ∀ (l : List α) (i : Nat), (l.flatMap g)[i]? = (l[i / n]?).bind (fun a => (g a)[i % n]?)
  | [], i => by simp
  | a :: l, i => by
    rw [List.flatMap_cons]
    rcases Nat.lt_or_ge i n with h | h
    · rw [List.getElem?_append_left (by rw [hg]; exact h), Nat.div_eq_of_lt h, Nat.mod_eq_of_lt h]
      rfl
    · rw [List.getElem?_append_right (by rw [hg]; exact h), hg, fm_get hn hg l (i - n)]
      obtain ⟨j, rfl⟩ : ∃ j, i = j + n := ⟨i - n, by omega⟩
      rw [Nat.add_sub_cancel, Nat.add_div_right j hn, Nat.add_mod_right]
      rfl
theorem mv_get5 {s b i : Nat} (hs : s < 256) (hb : b < 8) (hi : i < ssn s * 2 ^ sb_n b) {f : Nat → Nat → mv_T} : ((mv_ss s).flatMap fun u => (mv_bs b).map fun c => f u c)[i]? = some (f (ssd s (i / 2 ^ sb_n b)) (bsc b (i % 2 ^ sb_n b) 3)) := by
  have hn := (sb_p2 b hb).1
  rw [fm_get (n := 2 ^ sb_n b) hn (fun a => by rw [mv_bs_eq b hb]; simp), mv_ss_eq s hs, mv_bs_eq b hb]
  have h1 : i / 2 ^ sb_n b < ssn s := Nat.div_lt_of_lt_mul (by rw [Nat.mul_comm]; exact hi)
  have h2 : i % 2 ^ sb_n b < 2 ^ sb_n b := Nat.mod_lt _ hn
  simp [h1, h2]
/-- the k-th that there is, among all -/
theorem fl_at {α : Type} {f : Nat → Option α} {k : Nat} {m : α} (hf : f k = some m) : ∀ r, ((List.range (k + 1 + r)).filterMap f)[((List.range k).filterMap f).length]? = some m
  | 0 => by
    rw [Nat.add_zero, List.range_succ, List.filterMap_append, List.getElem?_append_right (Nat.le_refl _), Nat.sub_self]
    simp [hf]
  | r + 1 => by
    have ih := fl_at hf r
    rw [show k + 1 + (r + 1) = (k + 1 + r) + 1 by omega, List.range_succ, List.filterMap_append]
    have hlt : ((List.range k).filterMap f).length < ((List.range (k + 1 + r)).filterMap f).length := (List.getElem?_eq_some_iff.mp ih).1
    rw [List.getElem?_append_left hlt]
    exact ih
theorem fl_S {α : Type} (f : Nat → Option α) (k : Nat) : ((List.range (k + 1)).filterMap f).length = ((List.range k).filterMap f).length + (if (f k).isSome = true then 1 else 0) := by
  rw [List.range_succ, List.filterMap_append, List.length_append]
  cases e : f k with
  | none => simp [e]
  | some m => simp [e]
/-- OATHS and BARGAINS by what the deals come to -/
theorem mv_oath_do {W : ld_W} (h : ld_ok W) {o p s b k : Nat} (hk : k < ld_o W) : mv_oath W o p s b k = if o / 2 ^ k % 2 = 1 then (ld_do W k s).map (fun r => (10 + k, [(p, r.1, b)], -1, -1)) else none := by
  unfold mv_oath ld_do
  rw [h.2.2.1 k hk]
  by_cases z : o / 2 ^ k % 2 = 1
  · rw [if_pos z, if_pos z]
    cases dp_ch s (ld_tk W k) (ld_gv W k) with
    | none => rfl
    | some t => rfl
  · rw [if_neg z, if_neg z]
theorem mv_barg_do {W : ld_W} {p s b k : Nat} : mv_barg W p s b k = if b / 2 ^ k % 2 = 1 then (ld_do W (3 + k) s).map (fun r => (20 + k, (match r.2 with
  | none => [(p, r.1, b - 2 ^ k)]
  | some t2 => [(p, r.1, b - 2 ^ k), (p, t2, b - 2 ^ k)]), -1, -1)) else none := by
  unfold mv_barg ld_do
  by_cases z : b / 2 ^ k % 2 = 1
  · rw [if_pos z, if_pos z]
    cases dp_ch s (ld_tk W (3 + k)) (ld_gv W (3 + k)) with
    | none => rfl
    | some t =>
      cases ld_ot W (3 + k) with
      | zero => rfl
      | succ x =>
        cases e : dp_ch s (ld_tk W (3 + k)) x with
        | none => simp only [e]; rfl
        | some t2 => simp only [e]; rfl
  · rw [if_neg z, if_neg z]
theorem ld_t0_some {W : ld_W} (h : ld_ok W) {k s : Nat} (hk : ld_dl W k) (hs : s < ld_N W) : (ld_t0 W k s = -1 ↔ ld_do W k s = none) := by
  have hN := ld_N_le h
  unfold ld_t0
  cases e : ld_do W k s with
  | none => exact ⟨fun _ => rfl, fun _ => rfl⟩
  | some r =>
    obtain ⟨t, o2⟩ := r
    have := (ld_do_N h hk hs e).1
    exact ⟨fun z => absurd z (m1_ne (by show t < 2 ^ 31; omega)), fun z => absurd z (by simp)⟩
/-- the place that is looked at -/
def mvL (W : ld_W) (o p st b : Nat) (s : gc_St) : Prop := gc_F s 32 1 = nI o ∧ gc_F s 32 2 = nI p ∧ gc_F s 32 3 = nI st ∧ gc_F s 32 4 = nI b ∧ gc_F s 32 5 = nI (mv_own W p st b).length
theorem mv_own_len {W : ld_W} (h : ld_ok W) {p st b : Nat} (hs : st < ld_N W) (hb : b < 8) : (mv_own W p st b).length ≤ 2048 := by
  have hN := ld_N_le h
  unfold mv_own
  split
  · split <;> simp
  · split <;> simp
  · simp
  · simp
  · simp
  · rw [mv_len5 (by omega) hb]
    have h1 := (ssn_le st (by omega)).2
    have h2 := (sb_p2 b hb).2
    exact Nat.mul_le_mul h1 h2
  · split <;> simp
  · split <;> simp
section Mv
variable {P : gc_Pr} {d : Nat} {s : gc_St} {Q : gc_TQ} {W : ld_W} {L v o p st b : Nat}
theorem sp_bitCount (hP : gc_Cl P) (hm : gc_Mo P) (hb : b < 8) (h : Q (some (.int (nI (sb_n b)))) s) : gc_T P d 0 0 294 0 [.int (nI b)] [] s Q := by
  refine b_J6_bitCount_0f7a4_0 hP hm ?_
  rw [bit_ct b hb]
  exact h
theorem sp_subStocks (hP : gc_Cl P) (hm : gc_Mo P) (hd : 1 ≤ d) (hst : st < 256) (hF : gc_F s 32 3 = nI st) (h : Q (some (.int (nI (ssn st)))) s) : gc_T P d 0 0 49 0 [.ref 32, gc_u, gc_u] [] s Q := by
  refine b_X4_subStocks_0 hP hm ?_
  have step : ∀ x g, g < 4 → gc_T P d 0 0 49 4 [.ref 32, .int (nI (x * (st / 4 ^ g % 4 + 1))), .int (nI (g + 1))] [] s Q → gc_T P d 0 0 49 4 [.ref 32, .int (nI x), .int (nI g)] [] s Q := by
    intro x g hg hn
    refine b_X4_subStocks_4 hP hm (pk_le 4 g (fun z => by omega) (fun _ => ⟨hd, ?_⟩))
    rw [hF]
    refine sp_countOf hP hm hst hg ?_
    show gc_T P d 0 0 49 4 [.ref 32, .int (nI x * (nI (st / 4 ^ g % 4) + 1)), .int (nI g + 1)] [] s Q
    rw [nI_1, nI_1, pk_mul]
    exact hn
  refine step 1 0 (by decide) (step _ 1 (by decide) (step _ 2 (by decide) (step _ 3 (by decide) ?_)))
  refine b_X4_subStocks_4 hP hm (pk_le 4 4 (fun _ => ?_) (fun z => by omega))
  rw [show 1 * (st / 4 ^ 0 % 4 + 1) * (st / 4 ^ 1 % 4 + 1) * (st / 4 ^ 2 % 4 + 1) * (st / 4 ^ 3 % 4 + 1) = ssn st by unfold ssn; simp]
  exact h
theorem sp_ownMoves (hP : gc_Cl P) (hm : gc_Mo P) (hd : 2 ≤ d) (hC : cl_C W L s) (hp : p < ld_p W) (hst : st < ld_N W) (hb : b < 8) (h2 : gc_F s 32 2 = nI p) (h3 : gc_F s 32 3 = nI st) (h4 : gc_F s 32 4 = nI b) (h : Q (some (.int (nI (mv_own W p st b).length))) s) : gc_T P d 0 0 48 0 [.ref 32, gc_u] [] s Q := by
  have hok := hC.2.2.2.1
  have hN := ld_N_le hok
  have hp24 := hok.1.2.2.2.2
  have hg4 := hok.1.1
  have hl := hC.2.2.1
  have hpt := hok.2.2.2.2.2 p hp
  have hk7 : ld_kd W p ≤ 7 := by
    unfold ld_pt at hpt
    omega
  refine b_X4_ownMoves_0 hP hm ?_
  rw [h2, h3, nI_clamp (by omega), hC.2.1, cl_kd hl hp, cl_fi hl hp, cl_se hl hp, nI_toInt (by omega)]
  refine ⟨cl_io hC.1, vp_in_nI (by omega) (by omega), fun z => ⟨vp_in_nI (by omega) (by omega), ?_⟩, fun z => ?_, fun z => ?_, fun z => ?_, fun z => ?_, fun z => ⟨by omega, ?_⟩, fun z => ?_, fun z => ⟨vp_in_nI (by omega) (by omega), by omega, ?_⟩, fun z => ?_⟩
  · have hk : ld_kd W p = 0 := by omega
    have hf : ld_fi W p < ld_g W := by
      unfold ld_pt at hpt
      omega
    have e : ld_fI W p = nI (ld_fi W p) := by
      unfold ld_fI
      rw [if_neg (by omega)]
    have hx : 4 ^ ld_fi W p < 256 := Nat.lt_of_lt_of_le (Nat.pow_lt_pow_right (by decide) hf) hN
    rw [e, ld_shN (by omega), nI_eq (by omega) (by omega)]
    rw [mv_own_0 hk] at h
    refine ⟨fun y => ?_, fun y => ?_⟩
    · rw [if_neg y] at h
      exact h
    · rw [if_pos y] at h
      exact h
  · have hk : ld_kd W p = 1 := by omega
    rw [mv_own_1 hk] at h
    rw [show (0 : Int32) = nI 0 from rfl, nI_eq (by omega) (by omega)]
    refine ⟨fun y => ?_, fun y => ?_⟩
    · rw [if_neg y] at h
      exact h
    · rw [if_pos y] at h
      exact h
  · rw [mv_own_2 (by omega)] at h
    exact h
  · rw [mv_own_3 (by omega)] at h
    exact h
  · rw [mv_own_4 (by omega)] at h
    exact h
  · rw [mv_own_5 (by omega), mv_len5 (by omega) hb] at h
    refine sp_subStocks hP hm (by omega) (by omega) h3 ⟨by omega, ?_⟩
    rw [h4]
    refine sp_bitCount hP hm hb ?_
    have h1 := (ssn_le st (by omega)).2
    have h2' := (sb_p2 b hb).2
    have h3' := sb_n_le b hb
    show Q (some (.int (nI (ssn st) <<< (nI (sb_n b) &&& 31)))) s
    rw [st_shl (by omega) (Nat.lt_of_le_of_lt (Nat.mul_le_mul h1 h2') (by decide))]
    exact h
  · have hk : ld_kd W p = 6 := by omega
    rw [mv_own_6 hk] at h
    rw [show (0 : Int32) = nI 0 from rfl, nI_eq (by omega) (by omega)]
    refine ⟨fun y => ?_, fun y => ?_⟩
    · rw [if_neg y] at h
      exact h
    · rw [if_pos y] at h
      exact h
  · have hk : ld_kd W p = 7 := by omega
    have hsN := (ld_part hok hp (by omega)).2.2.2.2 hk
    have es : ld_sI W p = nI (ld_se W p) := by
      unfold ld_sI
      rw [if_pos (by omega)]
    rw [es]
    rw [mv_own_7 hk] at h
    refine sp_fits hP hm (by omega) (by omega) ?_
    by_cases y : st_fit st (ld_se W p) = true
    · rw [if_pos y] at h ⊢
      exact ⟨fun z => absurd z (by decide), fun _ => h⟩
    · rw [if_neg y] at h ⊢
      exact ⟨fun _ => h, fun z => absurd rfl z⟩
  · omega
theorem sp_lookAt (hP : gc_Cl P) (hm : gc_Mo P) (hd : 3 ≤ d) (hC : cl_C W L s) (hp : p < ld_p W) (hst : st < ld_N W) (hb : b < 8) (h : ∀ t, mvL W o p st b t → fr A32 B0 s t → Q none t) : gc_T P d 0 0 47 0 [.ref 32, .int (nI o), .int (nI p), .int (nI st), .int (nI b)] [] s Q := by
  have g : fr A32 B0 s (gc_wF (gc_wF (gc_wF (gc_wF s 32 1 (nI o)) 32 2 (nI p)) 32 3 (nI st)) 32 4 (nI b)) := fr_wF rfl (fr_wF rfl (fr_wF rfl (fr_wF rfl (fr_refl s))))
  refine b_X4_lookAt_0 hP hm ⟨by omega, ?_⟩
  have e1 : gc_F (gc_wF (gc_wF (gc_wF (gc_wF s 32 1 (nI o)) 32 2 (nI p)) 32 3 (nI st)) 32 4 (nI b)) 32 1 = nI o := by
    rw [F_ne _ _ (Or.inr (by decide)), F_ne _ _ (Or.inr (by decide)), F_ne _ _ (Or.inr (by decide)), F_eq]
  have e2 : gc_F (gc_wF (gc_wF (gc_wF (gc_wF s 32 1 (nI o)) 32 2 (nI p)) 32 3 (nI st)) 32 4 (nI b)) 32 2 = nI p := by
    rw [F_ne _ _ (Or.inr (by decide)), F_ne _ _ (Or.inr (by decide)), F_eq]
  have e3 : gc_F (gc_wF (gc_wF (gc_wF (gc_wF s 32 1 (nI o)) 32 2 (nI p)) 32 3 (nI st)) 32 4 (nI b)) 32 3 = nI st := by
    rw [F_ne _ _ (Or.inr (by decide)), F_eq]
  have e4 : gc_F (gc_wF (gc_wF (gc_wF (gc_wF s 32 1 (nI o)) 32 2 (nI p)) 32 3 (nI st)) 32 4 (nI b)) 32 4 = nI b := F_eq _ _ _ _
  generalize gc_wF (gc_wF (gc_wF (gc_wF s 32 1 (nI o)) 32 2 (nI p)) 32 3 (nI st)) 32 4 (nI b) = s1 at g e1 e2 e3 e4 ⊢
  refine sp_ownMoves hP hm (by omega) (cl_C_fr hC g hA32.2 (fun _ _ => rfl)) hp hst hb e2 e3 e4 ?_
  refine h _ ⟨?_, ?_, ?_, ?_, F_eq _ _ _ _⟩ (fr_wF rfl g)
  · rw [F_ne _ _ (Or.inr (by decide))]
    exact e1
  · rw [F_ne _ _ (Or.inr (by decide))]
    exact e2
  · rw [F_ne _ _ (Or.inr (by decide))]
    exact e3
  · rw [F_ne _ _ (Or.inr (by decide))]
    exact e4
theorem sp_canOath (hP : gc_Cl P) (hm : gc_Mo P) (hd : 1 ≤ d) (hC : cl_C W L s) (hL : mvL W o p st b s) (ho : o < 8) (hst : st < ld_N W) {k : Nat} (hk : k < ld_o W) (h : Q (some (.int (cb (mv_oath W o p st b k).isSome))) s) : gc_T P d 0 0 50 0 [.ref 32, .int (nI k)] [] s Q := by
  have hok := hC.2.2.2.1
  have o3 := hok.1.2.1
  rw [mv_oath_do hok hk] at h
  refine b_X4_canOath_0 hP hm ⟨hd, ?_⟩
  rw [hL.1]
  refine sp_hasBit hP hm (by omega) (by omega) ?_
  by_cases z : o / 2 ^ k % 2 = 1
  · rw [decide_eq_true z]
    rw [if_pos z] at h
    refine ⟨fun y => absurd y (by decide), fun _ => ⟨hd, ?_⟩⟩
    rw [hL.2.2.1]
    refine sp_target hP hm (w := 0) hC (Or.inl hk) (by omega) hst ?_
    rw [if_pos rfl]
    have e := ld_t0_some hok (Or.inl hk) hst
    refine ⟨fun y => ?_, fun y => ?_⟩
    · rw [e.mp y] at h
      exact h
    · cases e2 : ld_do W k st with
      | none => exact absurd (e.mpr e2) y
      | some r =>
        rw [e2] at h
        exact h
  · rw [decide_eq_false z]
    rw [if_neg z] at h
    exact ⟨fun _ => h, fun y => absurd rfl y⟩
theorem sp_canBargain (hP : gc_Cl P) (hm : gc_Mo P) (hd : 1 ≤ d) (hC : cl_C W L s) (hL : mvL W o p st b s) (hb : b < 8) (hst : st < ld_N W) {k : Nat} (hk : k < ld_b W) (h : Q (some (.int (cb (mv_barg W p st b k).isSome))) s) : gc_T P d 0 0 51 0 [.ref 32, .int (nI k)] [] s Q := by
  have hok := hC.2.2.2.1
  have b3 := hok.1.2.2.1
  rw [mv_barg_do] at h
  refine b_X4_canBargain_0 hP hm ⟨hd, ?_⟩
  rw [hL.2.2.2.1]
  refine sp_hasBit hP hm (by omega) (by omega) ?_
  by_cases z : b / 2 ^ k % 2 = 1
  · rw [decide_eq_true z]
    rw [if_pos z] at h
    refine ⟨fun y => absurd y (by decide), fun _ => ⟨hd, ?_⟩⟩
    rw [hL.2.2.1, st_lit 3, nI_add]
    refine sp_target hP hm (w := 0) hC (Or.inr ⟨by omega, by omega⟩) (by omega) hst ?_
    rw [if_pos rfl]
    have e := ld_t0_some hok (k := 3 + k) (Or.inr ⟨by omega, by omega⟩) hst
    refine ⟨fun y => ?_, fun y => ?_⟩
    · rw [e.mp y] at h
      exact h
    · cases e2 : ld_do W (3 + k) st with
      | none => exact absurd (e.mpr e2) y
      | some r =>
        rw [e2] at h
        exact h
  · rw [decide_eq_false z]
    rw [if_neg z] at h
    exact ⟨fun _ => h, fun y => absurd rfl y⟩
theorem mv_all_len : (mv_all W o p st b).length = (mv_own W p st b).length + (((List.range (ld_o W)).filterMap (mv_oath W o p st b)).length + ((List.range (ld_b W)).filterMap (mv_barg W p st b)).length) := by
  unfold mv_all
  rw [List.length_append, List.length_append]
theorem sp_total (hP : gc_Cl P) (hm : gc_Mo P) (hd : 2 ≤ d) (hC : cl_C W L s) (hL : mvL W o p st b s) (ho : o < 8) (hb : b < 8) (hst : st < ld_N W) (h : Q (some (.int (nI (mv_all W o p st b).length))) s) : gc_T P d 0 0 52 0 [.ref 32, gc_u, gc_u] [] s Q := by
  have hok := hC.2.2.2.1
  have o3 := hok.1.2.1
  have b3 := hok.1.2.2.1
  have hF1 : gc_F s L 1 = nI (ld_o W) := hC.2.2.1.1.2.1
  have hF2 : gc_F s L 2 = nI (ld_b W) := hC.2.2.1.1.2.2.1
  rw [mv_all_len] at h
  have l2 : ∀ m k, k + m = ld_b W → gc_T P d 0 0 52 45 [.ref 32, .int (nI ((mv_own W p st b).length + (((List.range (ld_o W)).filterMap (mv_oath W o p st b)).length + ((List.range k).filterMap (mv_barg W p st b)).length))), .int (nI k)] [] s Q := by
    intro m
    induction m with
    | zero =>
      intro k hk
      obtain rfl : k = ld_b W := by omega
      refine b_X4_total_45 hP hm ⟨by rw [hC.2.1]; exact cl_io hC.1, ?_⟩
      rw [hC.2.1, hF2]
      exact pk_le (ld_b W) (ld_b W) (fun _ => h) (fun z => by omega)
    | succ m ih =>
      intro k hk
      have hn := ih (k + 1) (by omega)
      rw [fl_S] at hn
      refine b_X4_total_45 hP hm ⟨by rw [hC.2.1]; exact cl_io hC.1, ?_⟩
      rw [hC.2.1, hF2]
      refine pk_le (ld_b W) k (fun z => by omega) (fun _ => ⟨by omega, ?_⟩)
      refine sp_canBargain hP hm (by omega) hC hL hb hst (by omega) ?_
      cases e : (mv_barg W p st b k).isSome with
      | false =>
        rw [e] at hn
        refine ⟨fun _ => b_X4_total_73 hP hm ?_, fun y => absurd rfl y⟩
        rw [show (0 : Int32) = nI 0 from rfl, nI_add, nI_1]
        exact hn
      | true =>
        rw [e] at hn
        refine ⟨fun y => absurd y (by decide), fun _ => b_X4_total_73 hP hm ?_⟩
        rw [nI_1, nI_1]
        exact hn
  have l1 : ∀ m k, k + m = ld_o W → gc_T P d 0 0 52 7 [.ref 32, .int (nI ((mv_own W p st b).length + ((List.range k).filterMap (mv_oath W o p st b)).length)), .int (nI k)] [] s Q := by
    intro m
    induction m with
    | zero =>
      intro k hk
      obtain rfl : k = ld_o W := by omega
      refine b_X4_total_7 hP hm ⟨by rw [hC.2.1]; exact cl_io hC.1, ?_⟩
      rw [hC.2.1, hF1]
      exact pk_le (ld_o W) (ld_o W) (fun _ => l2 (ld_b W) 0 (by omega)) (fun z => by omega)
    | succ m ih =>
      intro k hk
      have hn := ih (k + 1) (by omega)
      rw [fl_S] at hn
      refine b_X4_total_7 hP hm ⟨by rw [hC.2.1]; exact cl_io hC.1, ?_⟩
      rw [hC.2.1, hF1]
      refine pk_le (ld_o W) k (fun z => by omega) (fun _ => ⟨by omega, ?_⟩)
      refine sp_canOath hP hm (by omega) hC hL ho hst (by omega) ?_
      cases e : (mv_oath W o p st b k).isSome with
      | false =>
        rw [e] at hn
        refine ⟨fun _ => b_X4_total_35 hP hm ?_, fun y => absurd rfl y⟩
        rw [show (0 : Int32) = nI 0 from rfl, nI_add, nI_1]
        exact hn
      | true =>
        rw [e] at hn
        refine ⟨fun y => absurd y (by decide), fun _ => b_X4_total_35 hP hm ?_⟩
        rw [nI_1, nI_1]
        exact hn
  refine b_X4_total_0 hP hm ?_
  rw [hL.2.2.2.2]
  exact l1 (ld_o W) 0 (by omega)
end Mv
