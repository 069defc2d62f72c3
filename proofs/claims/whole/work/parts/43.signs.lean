/-! Signs of the tape, on both sides. -/
def cb (b : Bool) : Int32 := if b = true then 1 else 0
theorem cb_t : cb true = 1 := rfl
theorem cb_f : cb false = 0 := rfl
def tk_L (x : Int32) : Bool := !decide (x < 97) && !decide (122 < x)
def tk_D (x : Int32) : Bool := !decide (x < 48) && !decide (57 < x)
def tk_B (x : Int32) : Bool := decide (x = 9) || (decide (x = 10) || (decide (x = 13) || decide (x = 32)))
def tk_S (x : Int32) : Bool := decide (x = 59) || (decide (x = 61) || (decide (x = 43) || (decide (x = 42) || (decide (x = 40) || (decide (x = 41) || (decide (x = 91) || decide (x = 93)))))))
def tk_in (x a b : Int32) : Bool := !decide (x < a) && !decide (b < x)
/-- a byte as a number 0 .. 255 -/
def tk_b (x : Int32) : Nat := x.toBitVec.toNat % 256
theorem tk_b_lt (x : Int32) : tk_b x < 256 := Nat.mod_lt _ (by decide)
theorem tk_b_eq (x : Int32) : x &&& 255 = nI (tk_b x) := pk_and x 8 (by decide)
section Sg
variable {P : gc_Pr} {d : Nat} {s : gc_St} {Q : gc_TQ}
theorem sp_isLetter (hP : gc_Cl P) (hm : gc_Mo P) {x : Int32} (h : Q (some (.int (cb (tk_L x)))) s) : gc_T P d 0 0 100 0 [.int x] [] s Q := by
  refine b_X8_isLetter_0 hP hm ⟨fun z => ?_, fun z => ⟨fun w => ?_, fun w => ?_⟩⟩
  · simpa [cb, tk_L, z] using h
  · simpa [cb, tk_L, z, w] using h
  · simpa [cb, tk_L, z, w] using h
theorem sp_mLetter (hP : gc_Cl P) (hm : gc_Mo P) {x : Int32} (h : Q (some (.int (cb (tk_L x)))) s) : gc_T P d 0 0 178 0 [.int x] [] s Q := by
  refine b_X11_isLetter_0 hP hm ⟨fun z => ?_, fun z => ⟨fun w => ?_, fun w => ?_⟩⟩
  · simpa [cb, tk_L, z] using h
  · simpa [cb, tk_L, z, w] using h
  · simpa [cb, tk_L, z, w] using h
theorem sp_isDigit (hP : gc_Cl P) (hm : gc_Mo P) {x : Int32} (h : Q (some (.int (cb (tk_D x)))) s) : gc_T P d 0 0 101 0 [.int x] [] s Q := by
  refine b_X8_isDigit_0 hP hm ⟨fun z => ?_, fun z => ⟨fun w => ?_, fun w => ?_⟩⟩
  · simpa [cb, tk_D, z] using h
  · simpa [cb, tk_D, z, w] using h
  · simpa [cb, tk_D, z, w] using h
theorem sp_mDigit (hP : gc_Cl P) (hm : gc_Mo P) {x : Int32} (h : Q (some (.int (cb (tk_D x)))) s) : gc_T P d 0 0 177 0 [.int x] [] s Q := by
  refine b_X11_isDigit_0 hP hm ⟨fun z => ?_, fun z => ⟨fun w => ?_, fun w => ?_⟩⟩
  · simpa [cb, tk_D, z] using h
  · simpa [cb, tk_D, z, w] using h
  · simpa [cb, tk_D, z, w] using h
theorem sp_in (hP : gc_Cl P) (hm : gc_Mo P) {x a b : Int32} (h : Q (some (.int (cb (tk_in x a b)))) s) : gc_T P d 0 0 212 0 [.int x, .int a, .int b] [] s Q := by
  refine b_X11_in_0 hP hm ⟨fun z => ?_, fun z => ⟨fun w => ?_, fun w => ?_⟩⟩
  · simpa [cb, tk_in, z] using h
  · simpa [cb, tk_in, z, w] using h
  · simpa [cb, tk_in, z, w] using h
theorem sp_isBlank (hP : gc_Cl P) (hm : gc_Mo P) {x : Int32} (h : Q (some (.int (cb (tk_B x)))) s) : gc_T P d 0 0 99 0 [.int x] [] s Q := by
  refine b_X8_isBlank_0 hP hm ⟨fun z => ?_, fun z => ⟨fun w => ?_, fun w => ⟨fun v => ?_, fun v => ⟨fun u => ?_, fun u => ?_⟩⟩⟩⟩
  · simpa [cb, tk_B, z] using h
  · simpa [cb, tk_B, z, w] using h
  · simpa [cb, tk_B, z, w, v] using h
  · simpa [cb, tk_B, z, w, v, u] using h
  · simpa [cb, tk_B, z, w, v, u] using h
theorem sp_isSign (hP : gc_Cl P) (hm : gc_Mo P) {x : Int32} (h : Q (some (.int (cb (tk_S x)))) s) : gc_T P d 0 0 102 0 [.int x] [] s Q := by
  refine b_X8_isSign_0 hP hm ⟨fun z1 => ?_, fun z1 => ⟨fun z2 => ?_, fun z2 => ⟨fun z3 => ?_, fun z3 => ⟨fun z4 => ?_, fun z4 => ⟨fun z5 => ?_, fun z5 => ⟨fun z6 => ?_, fun z6 => ⟨fun z7 => ?_, fun z7 => ⟨fun z8 => ?_, fun z8 => ?_⟩⟩⟩⟩⟩⟩⟩⟩
  · simpa [cb, tk_S, z1] using h
  · simpa [cb, tk_S, z1, z2] using h
  · simpa [cb, tk_S, z1, z2, z3] using h
  · simpa [cb, tk_S, z1, z2, z3, z4] using h
  · simpa [cb, tk_S, z1, z2, z3, z4, z5] using h
  · simpa [cb, tk_S, z1, z2, z3, z4, z5, z6] using h
  · simpa [cb, tk_S, z1, z2, z3, z4, z5, z6, z7] using h
  · simpa [cb, tk_S, z1, z2, z3, z4, z5, z6, z7, z8] using h
  · simpa [cb, tk_S, z1, z2, z3, z4, z5, z6, z7, z8] using h
/-- the tape's byte, and -1 behind its end -/
theorem sp_byteAt (hP : gc_Cl P) (hm : gc_Mo P) {n i : Nat} (hn : n ≤ 2000) (hi : i < 2 ^ 31) (hF : gc_F s 1 1 = nI n) (h : Q (some (.int (if i < n then nI (tk_b (gc_I s 2 i)) else -1))) s) : gc_T P d 0 0 90 0 [.ref 1, .int (nI i)] [] s Q := by
  refine b_X7_byteAt_0 hP hm ⟨fun z => absurd z (nI_pos hi), fun _ => ?_⟩
  rw [hF, nI_leI (by omega) hi, st_lit 2000, nI_leI (by omega) hi]
  refine ⟨fun z => ?_, fun z => ⟨fun w => ?_, fun w => ⟨vp_in_nI (by omega) (by omega), ?_⟩⟩⟩
  · rw [if_neg (by omega)] at h
    exact h
  · omega
  · rw [if_pos (by omega)] at h
    rw [nI_clamp hi, tk_b_eq]
    exact h
/-- the reference's byte, and 0 behind its end -/
theorem sp_mbyteAt (hP : gc_Cl P) (hm : gc_Mo P) {n i : Nat} (hn : n ≤ 2000) (hi : i < 2 ^ 31) (hF : gc_F s 67 5 = nI n) (h : Q (some (.int (if i < n then nI (tk_b (gc_I s 70 i)) else 0))) s) : gc_T P d 0 0 176 0 [.ref 67, .int (nI i)] [] s Q := by
  refine b_X11_byteAt_0 hP hm ?_
  rw [hF, nI_leI (by omega) hi]
  refine ⟨fun z => ?_, fun z => ⟨vp_in_nI (by omega) (by omega), ?_⟩⟩
  · rw [if_neg (by omega)] at h
    exact h
  · rw [if_pos (by omega)] at h
    rw [nI_clamp hi, tk_b_eq]
    exact h
end Sg
