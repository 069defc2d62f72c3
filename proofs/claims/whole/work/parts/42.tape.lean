/-! The tape: feed, back. -/
theorem gc_ext {s t : gc_St} (h1 : gc_F s = gc_F t) (h2 : gc_I s = gc_I t) (h3 : s.2.2 = t.2.2) : s = t := Prod.ext h1 (Prod.ext h2 h3)
/-- k numbers come behind the first L of a row, whose count stands in a field -/
def tp_can (o f a L k : Nat) (g : Nat → Int32) (s : gc_St) : gc_St := gc_wF (gc_wR s a (fun j => if L ≤ j ∧ j < L + k then g (j - L) else gc_I s a j)) o f (nI (L + k))
theorem tp_F {o f a L k : Nat} {g : Nat → Int32} {s : gc_St} (q j : Nat) : gc_F (tp_can o f a L k g s) q j = if q = o then (if j = f then nI (L + k) else gc_F s q j) else gc_F s q j := by
  unfold tp_can
  rw [rw_F_wF, rw_F_wR]
theorem tp_I {o f a L k : Nat} {g : Nat → Int32} {s : gc_St} (q j : Nat) : gc_I (tp_can o f a L k g s) q j = if q = a then (if L ≤ j ∧ j < L + k then g (j - L) else gc_I s a j) else gc_I s q j := by
  unfold tp_can
  rw [rw_I_wF, rw_I_wR]
theorem tp_0 {o f a L : Nat} {g : Nat → Int32} {s : gc_St} (h : gc_F s o f = nI L) : tp_can o f a L 0 g s = s := by
  refine gc_ext ?_ ?_ rfl
  · funext q j
    rw [tp_F]
    by_cases e : q = o
    · subst e
      by_cases e2 : j = f
      · subst e2; rw [if_pos rfl, if_pos rfl, h]; rfl
      · rw [if_pos rfl, if_neg e2]
    · rw [if_neg e]
  · funext q j
    rw [tp_I]
    by_cases e : q = a
    · subst e
      rw [if_pos rfl, if_neg (by omega)]
    · rw [if_neg e]
theorem tp_step {o f a L k : Nat} {g : Nat → Int32} {s : gc_St} {x : Int32} (hx : x = g k) : gc_wF (gc_wI (tp_can o f a L k g s) a (L + k) x) o f (nI (L + k) + 1) = tp_can o f a L (k + 1) g s := by
  refine gc_ext ?_ ?_ rfl
  · funext q j
    rw [rw_F_wF, rw_F_wI, tp_F, tp_F, nI_1]
    by_cases e : q = o
    · subst e
      by_cases e2 : j = f
      · subst e2; rw [if_pos rfl, if_pos rfl, if_pos rfl, if_pos rfl]; rfl
      · rw [if_pos rfl, if_neg e2, if_pos rfl, if_neg e2, if_pos rfl, if_neg e2]
    · rw [if_neg e, if_neg e, if_neg e]
  · funext q j
    rw [rw_I_wF, rw_I_wI, tp_I, tp_I]
    by_cases e : q = a
    · subst e
      rw [if_pos rfl, if_pos rfl, if_pos rfl]
      by_cases e2 : j = L + k
      · subst e2
        rw [if_pos rfl, if_pos (by omega), hx]
        congr 1
        omega
      · rw [if_neg e2]
        by_cases e3 : L ≤ j ∧ j < L + k
        · rw [if_pos e3, if_pos (by omega)]
        · rw [if_neg e3, if_neg (by omega)]
    · rw [if_neg e, if_neg e, if_neg e]
theorem tp_cat {o f a L k1 k2 : Nat} {g1 g2 : Nat → Int32} {s : gc_St} : tp_can o f a (L + k1) k2 g2 (tp_can o f a L k1 g1 s) = tp_can o f a L (k1 + k2) (fun j => if j < k1 then g1 j else g2 (j - k1)) s := by
  refine gc_ext ?_ ?_ rfl
  · funext q j
    rw [tp_F, tp_F, tp_F, Nat.add_assoc]
    by_cases e : q = o
    · subst e
      by_cases e2 : j = f
      · subst e2; rw [if_pos rfl, if_pos rfl, if_pos rfl, if_pos rfl]
      · rw [if_pos rfl, if_neg e2, if_pos rfl, if_neg e2, if_pos rfl, if_neg e2]
    · rw [if_neg e, if_neg e, if_neg e]
  · funext q j
    rw [tp_I, tp_I, tp_I, tp_I]
    by_cases e : q = a
    · subst e
      rw [if_pos rfl, if_pos rfl, if_pos rfl]
      by_cases e2 : L + k1 ≤ j ∧ j < L + k1 + k2
      · rw [if_pos e2, if_pos (by omega), if_neg (by omega)]
        congr 1
        omega
      · rw [if_neg e2]
        by_cases e3 : L ≤ j ∧ j < L + k1
        · rw [if_pos e3, if_pos (by omega), if_pos (by omega)]
        · rw [if_neg e3, if_neg (by omega)]
    · rw [if_neg e, if_neg e, if_neg e]
/-- the shifts 24, 16, 8, 0, and a number's k-th byte from the top -/
def tp_sh : Nat → Int32
  | 0 => 24
  | k + 1 => tp_sh k + (-8)
def tp_by (w : Int32) (k : Nat) : Int32 := vp_nar .byte (w >>> (tp_sh k &&& 31)).toInt8.toInt32
section Tp
variable {P : gc_Pr} {d : Nat} {s : gc_St} {Q : gc_TQ}
theorem sp_add (hP : gc_Cl P) (hm : gc_Mo P) {L : Nat} {w : Int32} (hL : L + 4 ≤ 2000) (hF : gc_F s 1 1 = nI L) (h : Q none (tp_can 1 1 2 L 4 (tp_by w) s)) : gc_T P d 0 0 89 0 [.ref 1, .int w, gc_u] [] s Q := by
  refine b_X7_add_0 hP hm ?_
  have key : ∀ n k, k + n = 4 → gc_T P d 0 0 89 3 [.ref 1, .int w, .int (tp_sh k)] [] (tp_can 1 1 2 L k (tp_by w) s) Q := by
    intro n
    induction n with
    | zero =>
      intro k hk
      obtain rfl : k = 4 := by omega
      exact b_X7_add_3 hP hm ⟨fun _ => h, fun y => absurd (by decide) y⟩
    | succ n ih =>
      intro k hk
      have hF2 : gc_F (tp_can 1 1 2 L k (tp_by w) s) 1 1 = nI (L + k) := by rw [tp_F, if_pos rfl, if_pos rfl]
      have hs : ∀ k, k < 4 → ¬ tp_sh k < 0 := by decide
      refine b_X7_add_3 hP hm ⟨fun y => absurd y (hs k (by omega)), fun _ => ⟨fun y => ?_, fun _ => ?_⟩⟩
      · rw [hF2, st_lit 2000, nI_leI (by omega) (by omega)] at y
        omega
      · rw [hF2, nI_clamp (by omega)]
        refine ⟨vp_in_nI (by omega) (by omega), ?_⟩
        have := ih (k + 1) (by omega)
        rw [← tp_step (x := tp_by w k) rfl] at this
        exact this
  have := key 4 0 rfl
  rw [tp_0 hF] at this
  exact this
theorem sp_mput (hP : gc_Cl P) (hm : gc_Mo P) {L : Nat} {w : Int32} (hL : L + 4 ≤ 2000) (hF : gc_F s 67 3 = nI L) (h : Q none (tp_can 67 3 69 L 4 (tp_by w) s)) : gc_T P d 0 0 174 0 [.ref 67, .int w, gc_u] [] s Q := by
  refine b_X11_put_0 hP hm ?_
  have key : ∀ n k, k + n = 4 → gc_T P d 0 0 174 3 [.ref 67, .int w, .int (tp_sh k)] [] (tp_can 67 3 69 L k (tp_by w) s) Q := by
    intro n
    induction n with
    | zero =>
      intro k hk
      obtain rfl : k = 4 := by omega
      exact b_X11_put_3 hP hm ⟨fun _ => h, fun y => absurd (by decide) y⟩
    | succ n ih =>
      intro k hk
      have hF2 : gc_F (tp_can 67 3 69 L k (tp_by w) s) 67 3 = nI (L + k) := by rw [tp_F, if_pos rfl, if_pos rfl]
      have hs : ∀ k, k < 4 → ¬ tp_sh k < 0 := by decide
      refine b_X11_put_3 hP hm ⟨fun y => absurd y (hs k (by omega)), fun _ => ?_⟩
      rw [hF2, nI_clamp (by omega)]
      refine ⟨vp_in_nI (by omega) (by omega), ?_⟩
      have := ih (k + 1) (by omega)
      rw [← tp_step (x := tp_by w k) rfl] at this
      exact this
  have := key 4 0 rfl
  rw [tp_0 hF] at this
  exact this
/-- twenty bytes of five numbers -/
def tp_20 (a b c d e : Int32) (j : Nat) : Int32 := if j < 16 then (if j < 12 then (if j < 8 then (if j < 4 then tp_by a j else tp_by b (j - 4)) else tp_by c (j - 8)) else tp_by d (j - 12)) else tp_by e (j - 16)
theorem sp_feed (hP : gc_Cl P) (hm : gc_Mo P) (hd : 1 ≤ d) {L : Nat} {v w x y z : Int32} (hL : L ≤ 2000) (hF : gc_F s 1 1 = nI L) (h : if L + 20 ≤ 2000 then Q (some (.int (nI (L + 20)))) (tp_can 1 1 2 L 20 (tp_20 v w x y z) s) else Q (some (.int (-1))) s) : gc_T P d 0 0 121 0 [.ref 0, .int v, .int w, .int x, .int y, .int z] [] s Q := by
  refine b_X10_feed_0 hP hm ?_
  rw [hF, st_lit 20, nI_add, st_lit 2000, nI_leI (by omega) (by omega)]
  refine ⟨fun c => ?_, fun c => ?_⟩
  · rw [if_pos c] at h
    refine ⟨hd, sp_add hP hm (L := L) (by omega) hF ?_⟩
    refine ⟨hd, sp_add hP hm (L := L + 4) (by omega) (by rw [tp_F]; rfl) ?_⟩
    rw [tp_cat]
    refine ⟨hd, sp_add hP hm (L := L + 8) (by omega) (by rw [tp_F]; rfl) ?_⟩
    rw [tp_cat]
    refine ⟨hd, sp_add hP hm (L := L + 12) (by omega) (by rw [tp_F]; rfl) ?_⟩
    rw [tp_cat]
    refine ⟨hd, sp_add hP hm (L := L + 16) (by omega) (by rw [tp_F]; rfl) ?_⟩
    rw [tp_cat]
    show Q (some (.int (gc_F _ 1 1))) _
    rw [tp_F]
    exact h
  · rw [if_neg c] at h
    exact h
theorem sp_mfeed (hP : gc_Cl P) (hm : gc_Mo P) (hd : 1 ≤ d) {L : Nat} {v w x y z : Int32} (hL : L ≤ 2000) (hF : gc_F s 67 3 = nI L) (h : if L + 20 ≤ 2000 then Q (some (.int (nI (L + 20)))) (tp_can 67 3 69 L 20 (tp_20 v w x y z) s) else Q (some (.int (-1))) s) : gc_T P d 0 0 173 0 [.ref 67, .int v, .int w, .int x, .int y, .int z] [] s Q := by
  refine b_X11_feed_0 hP hm ?_
  rw [hF, st_lit 20, nI_add, st_lit 2000, nI_leI (by omega) (by omega)]
  refine ⟨fun c => ?_, fun c => ?_⟩
  · rw [if_pos c] at h
    refine ⟨hd, sp_mput hP hm (L := L) (by omega) hF ?_⟩
    refine ⟨hd, sp_mput hP hm (L := L + 4) (by omega) (by rw [tp_F]; rfl) ?_⟩
    rw [tp_cat]
    refine ⟨hd, sp_mput hP hm (L := L + 8) (by omega) (by rw [tp_F]; rfl) ?_⟩
    rw [tp_cat]
    refine ⟨hd, sp_mput hP hm (L := L + 12) (by omega) (by rw [tp_F]; rfl) ?_⟩
    rw [tp_cat]
    refine ⟨hd, sp_mput hP hm (L := L + 16) (by omega) (by rw [tp_F]; rfl) ?_⟩
    rw [tp_cat]
    show Q (some (.int (gc_F _ 67 3))) _
    rw [tp_F]
    exact h
  · rw [if_neg c] at h
    exact h
end Tp
