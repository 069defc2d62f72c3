/-! Runs of letters and digits on the reference's side. -/
/-- a word as a number: B times what was, and the letter's place -/
def tk_nm (B : Nat) (b : Nat → Nat) (i : Nat) : Nat → Nat
  | 0 => 0
  | k + 1 => B * tk_nm B b i k + (b (i + k) - 96)
/-- digits as a number -/
def tk_nu (b : Nat → Nat) (i : Nat) : Nat → Nat
  | 0 => 0
  | k + 1 => 10 * tk_nu b i k + (b (i + k) - 48)
theorem tk_L_iff {c : Nat} (hc : c < 2 ^ 31) : tk_L (nI c) = true ↔ 97 ≤ c ∧ c ≤ 122 := by
  unfold tk_L
  rw [st_lit 97, st_lit 122]
  simp only [Bool.and_eq_true, Bool.not_eq_true', decide_eq_false_iff_not, nI_ltI hc (show (97 : Nat) < 2 ^ 31 by decide), nI_ltI (show (122 : Nat) < 2 ^ 31 by decide) hc]
  omega
theorem tk_D_iff {c : Nat} (hc : c < 2 ^ 31) : tk_D (nI c) = true ↔ 48 ≤ c ∧ c ≤ 57 := by
  unfold tk_D
  rw [st_lit 48, st_lit 57]
  simp only [Bool.and_eq_true, Bool.not_eq_true', decide_eq_false_iff_not, nI_ltI hc (show (48 : Nat) < 2 ^ 31 by decide), nI_ltI (show (57 : Nat) < 2 ^ 31 by decide) hc]
  omega
section Lt
variable {P : gc_Pr} {d : Nat} {s : gc_St} {Q : gc_TQ}
theorem tk_off {c : Nat} (hc : 97 ≤ c) (hc2 : c < 256) : ((nI c - 97) + 1).toInt64 = lN (c - 96) := by
  rw [st_lit 97, pk_sub hc, nI_1, nI_l (by omega)]
  congr 1
  omega
theorem sp_appends (hP : gc_Cl P) (hm : gc_Mo P) {x c : Nat} (hc : 97 ≤ c) (hc2 : c < 256) (h : Q (some (.long (lN (27 * x + (c - 96))))) s) : gc_T P d 0 0 179 0 [.long (lN x), gc_u, .int (nI c)] [] s Q := by
  refine b_X11_appends_0 hP hm ⟨fun _ => ?_, fun z => ?_⟩
  · rw [tk_off hc hc2, show (27 : Int64) = lN 27 from rfl, lN_mul, lN_add]
    exact h
  · exact absurd z (nI_ne0 (by omega) (by omega))
theorem sp_withLetter (hP : gc_Cl P) (hm : gc_Mo P) {x c : Nat} (hc : 97 ≤ c) (hc2 : c < 256) (h : Q (some (.long (lN (32 * x + (c - 96))))) s) : gc_T P d 0 0 93 0 [.long (lN x), gc_u, .int (nI c)] [] s Q := by
  refine b_X8_withLetter_0 hP hm ?_
  rw [tk_off hc hc2, show (32 : Int64) = lN 32 from rfl, lN_mul, lN_add, Nat.mul_comm x 32]
  exact h
/-- the reference counts the letters from i up to e, and keeps the first eight -/
theorem cut_letters (hP : gc_Cl P) (hm : gc_Mo P) (hd : 1 ≤ d) {n i e : Nat} {l2 : Int32} {l6 l7 : Value} (hn : n ≤ 2000) (hF : gc_F s 67 5 = nI n) (hie : i ≤ e) (hen : e ≤ n)
    (hall : ∀ j, i ≤ j → j < e → tk_L (nI (tk_b (gc_I s 70 j))) = true) (hend : e < n → tk_L (nI (tk_b (gc_I s 70 e))) = false)
    (h : gc_T P d 0 0 182 135 [.ref 67, .int (nI i), .int l2, .int (nI (e - i)), .long (lN (tk_nm 27 (fun j => tk_b (gc_I s 70 j)) i (min (e - i) 8))), gc_u, l6, l7] [.int (if e - i ≤ 8 then 1 else 3)] s Q) :
    gc_T P d 0 0 182 85 [.ref 67, .int (nI i), .int l2, .int 0, .long 0, gc_u, l6, l7] [] s Q := by
  have key : ∀ m k, k + m = e - i → gc_T P d 0 0 182 85 [.ref 67, .int (nI i), .int l2, .int (nI k), .long (lN (tk_nm 27 (fun j => tk_b (gc_I s 70 j)) i (min k 8))), gc_u, l6, l7] [] s Q := by
    intro m
    induction m with
    | zero =>
      intro k hk
      obtain rfl : k = e - i := by omega
      refine b_X11_cut_85 hP hm ⟨hd, ?_⟩
      rw [nI_add]
      refine sp_mbyteAt hP hm hn (by omega) hF ?_
      refine ⟨hd, sp_mLetter hP hm ?_⟩
      have hf : tk_L (if i + (e - i) < n then nI (tk_b (gc_I s 70 (i + (e - i)))) else 0) = false := by
        rw [show i + (e - i) = e by omega]
        by_cases c : e < n
        · rw [if_pos c]; exact hend c
        · rw [if_neg c]; decide
      rw [hf]
      refine ⟨fun _ => ?_, fun y => absurd rfl y⟩
      rw [st_lit 8, nI_leI (by omega) (by omega)]
      refine ⟨fun y => ?_, fun y => ?_⟩
      · rw [if_pos y] at h
        exact h
      · rw [if_neg y] at h
        exact h
    | succ m ih =>
      intro k hk
      have hlet := hall (i + k) (by omega) (by omega)
      have hc := (tk_L_iff (Nat.lt_trans (tk_b_lt _) (by decide))).mp hlet
      have hb := tk_b_lt (gc_I s 70 (i + k))
      refine b_X11_cut_85 hP hm ⟨hd, ?_⟩
      rw [nI_add]
      refine sp_mbyteAt hP hm hn (by omega) hF ?_
      rw [if_pos (by omega)]
      refine ⟨hd, sp_mLetter hP hm ?_⟩
      rw [hlet]
      refine ⟨fun y => absurd y (by decide), fun _ => ?_⟩
      rw [st_lit 8, nI_leI (by omega) (by omega)]
      have hnext := ih (k + 1) (by omega)
      refine ⟨fun y => ?_, fun y => ⟨hd, ?_⟩⟩
      · refine b_X11_cut_118 hP hm ?_
        rw [nI_1, show min k 8 = min (k + 1) 8 by omega]
        exact hnext
      · refine sp_mbyteAt hP hm hn (by omega) hF ?_
        rw [if_pos (by omega)]
        refine ⟨hd, ?_⟩
        rw [show min k 8 = k by omega]
        refine sp_appends hP hm hc.1 hb ?_
        refine b_X11_cut_118 hP hm ?_
        rw [nI_1]
        rw [show min (k + 1) 8 = k + 1 by omega] at hnext
        exact hnext
  exact key (e - i) 0 (by omega)
/-- the digits likewise, the first four -/
theorem cut_digits (hP : gc_Cl P) (hm : gc_Mo P) (hd : 1 ≤ d) {n i e : Nat} {l2 : Int32} {l6 l7 : Value} (hn : n ≤ 2000) (hF : gc_F s 67 5 = nI n) (hie : i ≤ e) (hen : e ≤ n)
    (hall : ∀ j, i ≤ j → j < e → tk_D (nI (tk_b (gc_I s 70 j))) = true) (hend : e < n → tk_D (nI (tk_b (gc_I s 70 e))) = false)
    (h : gc_T P d 0 0 182 261 [.ref 67, .int (nI i), .int l2, .int (nI (e - i)), .int (nI (tk_nu (fun j => tk_b (gc_I s 70 j)) i (min (e - i) 4))), gc_u, l6, l7] [.int (if e - i ≤ 4 then 2 else 3), .ref 67] s Q) :
    gc_T P d 0 0 182 208 [.ref 67, .int (nI i), .int l2, .int 0, .int 0, gc_u, l6, l7] [] s Q := by
  have key : ∀ m k, k + m = e - i → gc_T P d 0 0 182 208 [.ref 67, .int (nI i), .int l2, .int (nI k), .int (nI (tk_nu (fun j => tk_b (gc_I s 70 j)) i (min k 4))), gc_u, l6, l7] [] s Q := by
    intro m
    induction m with
    | zero =>
      intro k hk
      obtain rfl : k = e - i := by omega
      refine b_X11_cut_208 hP hm ⟨hd, ?_⟩
      rw [nI_add]
      refine sp_mbyteAt hP hm hn (by omega) hF ?_
      refine ⟨hd, sp_mDigit hP hm ?_⟩
      have hf : tk_D (if i + (e - i) < n then nI (tk_b (gc_I s 70 (i + (e - i)))) else 0) = false := by
        rw [show i + (e - i) = e by omega]
        by_cases c : e < n
        · rw [if_pos c]; exact hend c
        · rw [if_neg c]; decide
      rw [hf]
      refine ⟨fun _ => ?_, fun y => absurd rfl y⟩
      rw [st_lit 4, nI_leI (by omega) (by omega)]
      refine ⟨fun y => ?_, fun y => ?_⟩
      · rw [if_pos y] at h
        exact h
      · rw [if_neg y] at h
        exact h
    | succ m ih =>
      intro k hk
      have hlet := hall (i + k) (by omega) (by omega)
      have hc := (tk_D_iff (Nat.lt_trans (tk_b_lt _) (by decide))).mp hlet
      refine b_X11_cut_208 hP hm ⟨hd, ?_⟩
      rw [nI_add]
      refine sp_mbyteAt hP hm hn (by omega) hF ?_
      rw [if_pos (by omega)]
      refine ⟨hd, sp_mDigit hP hm ?_⟩
      rw [hlet]
      refine ⟨fun y => absurd y (by decide), fun _ => ?_⟩
      rw [st_lit 4, nI_leI (by omega) (by omega)]
      have hnext := ih (k + 1) (by omega)
      refine ⟨fun y => ?_, fun y => ⟨hd, ?_⟩⟩
      · refine b_X11_cut_244 hP hm ?_
        rw [nI_1, show min k 4 = min (k + 1) 4 by omega]
        exact hnext
      · refine sp_mbyteAt hP hm hn (by omega) hF ?_
        rw [if_pos (by omega)]
        refine b_X11_cut_244 hP hm ?_
        rw [nI_1, st_lit 10, pk_mul, nI_add, st_lit 48, pk_sub (by omega), show min k 4 = k by omega]
        rw [show min (k + 1) 4 = k + 1 by omega] at hnext
        rw [show 10 * tk_nu (fun j => tk_b (gc_I s 70 j)) i k + tk_b (gc_I s 70 (i + k)) - 48 = tk_nu (fun j => tk_b (gc_I s 70 j)) i (k + 1) from by show _ = 10 * _ + (tk_b (gc_I s 70 (i + k)) - 48); omega]
        exact hnext
  exact key (e - i) 0 (by omega)
end Lt
