/-! The words: the class's numbers of them (32 to a letter) and the reference's (27). -/
def wL : List (List Nat) := [[103, 114, 111, 117, 110, 100], [111, 97, 116, 104], [98, 97, 114, 103, 97, 105, 110], [99, 108, 97, 105, 109], [103, 105, 118, 101, 115], [111, 114], [97, 110, 121], [110, 111, 116, 104, 105, 110, 103], [114, 101, 115, 116], [101, 118, 101, 114], [105, 115], [110, 111, 110, 101], [114, 101, 115, 116], [108, 101, 102, 116], [114, 105, 103, 104, 116], [101, 97, 99, 104], [115, 112, 108, 105, 116], [101, 118, 101, 114], [103, 105, 118, 101, 110], [117, 115, 101]]
def wl (j t : Nat) : Nat := (wL.getD j []).getD t 0
def wn (j : Nat) : Nat := (wL.getD j []).length
def w32 (j : Nat) : Nat := tk_nm 32 (wl j) 0 (wn j)
def w27 (j : Nat) : Nat := tk_nm 27 (wl j) 0 (wn j)
/-- which of the class's words the reference's k-th key is -/
def pm (k : Nat) : Nat := [0, 1, 4, 2, 5, 3, 7, 8, 6, 9].getD k 0
def k27 (k : Nat) : Nat := w27 (pm k)
theorem wl_ok : ∀ j, j < 20 → wn j ≤ 7 ∧ ∀ t, t < wn j → 97 ≤ wl j (0 + t) ∧ wl j (0 + t) ≤ 122 := by decide +kernel
theorem pm_lt : ∀ k, k < 10 → pm k < 10 := by decide
theorem w_sm : ∀ j, j < 20 → w32 j < 2 ^ 63 ∧ w27 j < 2 ^ 63 := by decide +kernel
theorem k27_sm (k : Nat) (hk : k < 10) : k27 k < 2 ^ 63 := (w_sm _ (Nat.lt_trans (pm_lt k hk) (by decide))).2
theorem w_two {b : Nat → Nat} {i m j : Nat} (hj : j < 20) (hb : ∀ t, t < m → 97 ≤ b (i + t) ∧ b (i + t) ≤ 122) : w27 j = tk_nm 27 b i m ↔ w32 j = tk_nm 32 b i m :=
  tk_nm_two (wl_ok j hj).2 hb
theorem w_len {b : Nat → Nat} {i m j : Nat} (hj : j < 20) (hb : ∀ t, t < m → 97 ≤ b (i + t) ∧ b (i + t) ≤ 122) (h : w32 j = tk_nm 32 b i m) : wn j = m :=
  (tk_nm_inj (by decide) _ _ (wl_ok j hj).2 hb h).1
/-- kinds: the reference's as the class's -/
def kc (k : Int32) : Int32 := if k = 0 then 0 else if k = 1 then 2 else if k = 2 then 3 else if k = 3 then 1 else if k = 4 then 59 else if k = 6 then 40 else if k = 7 then 41 else if k = 8 then 43 else if k = 9 then 42 else if k = 10 then 61 else if k = 11 then 91 else if k = 12 then 93 else if k = 20 then 300 else if k = 21 then 301 else if k = 22 then 304 else if k = 23 then 302 else if k = 24 then 305 else if k = 25 then 303 else if k = 26 then 307 else if k = 27 then 308 else if k = 28 then 306 else if k = 29 then 309 else 1
/-- the class's kind of a word: the first that it is from the w-th on -/
def ckw (x : Nat) : Nat → Nat → Int32
  | _, 0 => 2
  | w, m + 1 => if w32 w = x then nI (300 + w) else ckw x (w + 1) m
theorem ckw_no {x : Nat} : ∀ (m w : Nat), (∀ j, w ≤ j → j < w + m → w32 j ≠ x) → ckw x w m = 2
  | 0, _, _ => rfl
  | m + 1, w, h => by
    unfold ckw
    rw [if_neg (h w (Nat.le_refl _) (by omega))]
    exact ckw_no m (w + 1) (fun j h1 h2 => h j (by omega) (by omega))
theorem tk_kw_no {kw : Nat → Nat} {x : Nat} {t0 : Int32} : ∀ (m : Nat), (∀ k, k < m → kw k ≠ x) → tk_kw kw x t0 m = t0
  | 0, _ => rfl
  | m + 1, h => by
    unfold tk_kw
    rw [if_neg (h m (by omega))]
    exact tk_kw_no m (fun k hk => h k (by omega))
theorem kc_same : ∀ j, j < 10 → ckw (w32 j) 0 10 = kc (tk_kw k27 (w27 j) 1 10) := by decide +kernel
theorem kc_word {b : Nat → Nat} {i m : Nat} (hb : ∀ t, t < m → 97 ≤ b (i + t) ∧ b (i + t) ≤ 122) : ckw (tk_nm 32 b i m) 0 10 = kc (if m ≤ 7 then tk_kw k27 (tk_nm 27 b i m) 1 10 else 1) := by
  by_cases h : ∃ j, j < 10 ∧ w32 j = tk_nm 32 b i m
  · obtain ⟨j, hj, e⟩ := h
    have hl := w_len (j := j) (by omega) hb e
    rw [if_pos (by rw [← hl]; exact (wl_ok j (by omega)).1), ← e, ← (w_two (j := j) (by omega) hb).mpr e]
    exact kc_same j hj
  · rw [ckw_no 10 0 (fun j _ h2 e => h ⟨j, by omega, e⟩)]
    have : tk_kw k27 (tk_nm 27 b i m) 1 10 = 1 := tk_kw_no 10 (fun k hk e => h ⟨pm k, pm_lt k hk, (w_two (Nat.lt_trans (pm_lt k hk) (by decide)) hb).mp e⟩)
    rw [this, ite_self]
    rfl
section Kw
variable {P : gc_Pr} {d : Nat} {s : gc_St} {Q : gc_TQ}
theorem sp_kindOfWord (hP : gc_Cl P) (hm : gc_Mo P) {x : Nat} (hJ : ∀ k, k < 20 → gc_J s 8 k = lN (w32 k)) (hx : x < 2 ^ 63) (h : Q (some (.int (ckw x 0 10))) s) : gc_T P d 0 0 97 0 [.ref 3, .long (lN x), gc_u, gc_u] [] s Q := by
  refine b_X8_kindOfWord_0 hP hm ?_
  have key : ∀ m w, w + m = 10 → Q (some (.int (ckw x w m))) s → gc_T P d 0 0 97 2 [.ref 3, .long (lN x), gc_u, .int (nI w)] [] s Q := by
    intro m
    induction m with
    | zero =>
      intro w hw hq
      obtain rfl : w = 10 := by omega
      exact b_X8_kindOfWord_2 hP hm ⟨fun _ => hq, fun y => absurd (by decide) y⟩
    | succ m ih =>
      intro w hw hq
      refine b_X8_kindOfWord_2 hP hm (pk_le 10 w (fun z => ?_) (fun z => ⟨vp_in_nI (by omega) (by omega), ?_⟩))
      · omega
      · unfold ckw at hq
        rw [nI_clamp (by omega), hJ w (by omega), lg_cmp0, pk_lEQ (w_sm w (by omega)).1 hx]
        refine ⟨fun y => ?_, fun y => ?_⟩
        · rw [if_neg y] at hq
          rw [nI_1]
          exact ih (w + 1) (by omega) hq
        · rw [if_pos y] at hq
          rw [st_lit 300, nI_add]
          exact hq
  exact key 10 0 rfl h
end Kw
