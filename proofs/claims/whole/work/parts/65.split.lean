/-! Picking a MOVE. -/
def lsP (ls : List (Nat × Nat × Nat)) (s : gc_St) : Prop := gc_F s 32 9 = nI ls.length ∧ ∀ i l, ls[i]? = some l → gc_I s 33 i = nI l.1 ∧ gc_I s 34 i = nI l.2.1 ∧ gc_I s 35 i = nI l.2.2
/-- the step that was picked -/
def mvP (m : mv_T) (s : gc_St) : Prop := gc_F s 32 6 = nI m.1 ∧ gc_F s 32 7 = m.2.2.1 ∧ gc_F s 32 8 = m.2.2.2 ∧ lsP m.2.1 s
theorem lsP_wF {ls : List (Nat × Nat × Nat)} {s : gc_St} (h : lsP ls s) {q k : Nat} {x : Int32} (hk : q ≠ 32 ∨ k ≠ 9) : lsP ls (gc_wF s q k x) := by
  refine ⟨?_, h.2⟩
  rw [F_ne _ _ (by omega)]
  exact h.1
theorem A9_69 {s t : gc_St} (h : fr A9 B33 s t) : fr A69 B33 s t := by
  refine fr_mono (fun q k e => ?_) (fun _ e => e) h
  unfold A69 at e
  unfold A9
  cases e1 : Nat.beq q 32 with
  | false => rfl
  | true =>
    rw [e1] at e
    cases e2 : Nat.beq k 9 with
    | false => rfl
    | true =>
      rw [Nat.eq_of_beq_eq_true e2] at e
      exact absurd e (by decide)
section Pk
variable {P : gc_Pr} {d : Nat} {s : gc_St} {Q : gc_TQ} {W : ld_W} {L v o p st b : Nat}
theorem sp_lead (hP : gc_Cl P) (hm : gc_Mo P) {ls : List (Nat × Nat × Nat)} (hls : lsP ls s) (hlen : ls.length < 2) {x y z : Nat} (h : ∀ t, lsP (ls ++ [(x, y, z)]) t → fr A9 B33 s t → Q none t) : gc_T P d 0 0 55 0 [.ref 32, .int (nI x), .int (nI y), .int (nI z)] [] s Q := by
  refine b_X4_lead_0 hP hm ?_
  rw [hls.1, nI_clamp (by omega)]
  refine pk_le 2 ls.length (fun w => by omega) (fun _ => ⟨vp_in_nI hlen (by decide), vp_in_nI hlen (by decide), vp_in_nI hlen (by decide), ?_⟩)
  rw [nI_1]
  refine h _ ⟨?_, fun i l hi => ?_⟩ (fr_wF rfl (fr_wI rfl (fr_wI rfl (fr_wI rfl (fr_refl s)))))
  · rw [F_eq, List.length_append]
    rfl
  · by_cases e : i = ls.length
    · rw [e, List.getElem?_append_right (Nat.le_refl _), Nat.sub_self] at hi
      simp only [List.getElem?_cons_zero, Option.some.injEq] at hi
      subst hi
      rw [e, rw_I_wF]
      refine ⟨?_, ?_, I_eq _ _ _ _⟩
      · rw [I_ne _ _ (Or.inl (by decide)), I_ne _ _ (Or.inl (by decide)), I_eq]
      · rw [I_ne _ _ (Or.inl (by decide)), I_eq]
    · have hlt : i < ls.length := by
        have := (List.getElem?_eq_some_iff.mp hi).1
        rw [List.length_append] at this
        simp only [List.length_cons, List.length_nil] at this
        omega
      rw [List.getElem?_append_left hlt] at hi
      have := hls.2 i l hi
      rw [rw_I_wF]
      refine ⟨?_, ?_, ?_⟩
      · rw [I_ne _ _ (Or.inr e), I_ne _ _ (Or.inr e), I_ne _ _ (Or.inr e)]
        exact this.1
      · rw [I_ne _ _ (Or.inr e), I_ne _ _ (Or.inr e), I_ne _ _ (Or.inr e)]
        exact this.2.1
      · rw [I_ne _ _ (Or.inr e), I_ne _ _ (Or.inr e), I_ne _ _ (Or.inr e)]
        exact this.2.2
def A78 (q k : Nat) : Bool := Nat.beq q 32 && (Nat.beq k 7 || Nat.beq k 8)
theorem bsc_lt : ∀ b, b < 8 → ∀ i, i < 8 → ∀ k, k < 4 → bsc b i k < 2 ^ k := by decide +kernel
theorem sp_pickSplit (hP : gc_Cl P) (hm : gc_Mo P) (hd : 1 ≤ d) (hst : st < 256) (hb : b < 8) (h3 : gc_F s 32 3 = nI st) (h4 : gc_F s 32 4 = nI b) {i : Nat} (hi : i < ssn st * 2 ^ sb_n b)
    (h : ∀ t, gc_F t 32 7 = nI (ssd st (i / 2 ^ sb_n b)) → gc_F t 32 8 = nI (bsc b (i % 2 ^ sb_n b) 3) → fr A78 B0 s t → Q none t) : gc_T P d 0 0 56 0 [.ref 32, .int (nI i), gc_u, gc_u, gc_u] [] s Q := by
  have hs1 := ssn_le st hst
  have hp2 := sb_p2 b hb
  have hi2 : i < 2048 := Nat.lt_of_lt_of_le hi (Nat.mul_le_mul hs1.2 hp2.2)
  refine b_X4_pickSplit_0 hP hm ?_
  have hn3 := sb_n_le b hb
  -- the sets
  have bs : ∀ x k, k < 3 → ∀ c t, gc_F t 32 4 = nI b → gc_F t 32 8 = nI c → c < 2 ^ k → x < 2 ^ 31 → (∀ u, gc_F u 32 8 = nI (if b / 2 ^ k % 2 = 1 then c + (x % 2) * 2 ^ k else c) → fr A78 B0 t u → gc_T P d 0 0 56 9 [.ref 32, .int (nI i), .int (nI (if b / 2 ^ k % 2 = 1 then x / 2 else x)), .int (nI (k + 1)), gc_u] [] u Q) → gc_T P d 0 0 56 9 [.ref 32, .int (nI i), .int (nI x), .int (nI k), gc_u] [] t Q := by
    intro x k hk c t g4 g8 hc hx hn
    refine b_X4_pickSplit_9 hP hm (pk_le 3 k (fun z => by omega) (fun _ => ⟨hd, ?_⟩))
    rw [g4]
    refine sp_hasBit hP hm (by omega) (by omega) ?_
    by_cases z : b / 2 ^ k % 2 = 1
    · rw [decide_eq_true z]
      refine ⟨fun y => absurd y (by decide), fun _ => b_X4_pickSplit_43 hP hm ?_⟩
      have hxx := Nat.mod_lt x (show 0 < 2 by decide)
      have hk2 : 2 ^ k ≤ 4 := Nat.pow_le_pow_right (by decide) (show k ≤ 2 by omega)
      rw [g8, st_and1 (by omega), st_shl (by omega) (Nat.lt_of_le_of_lt (Nat.mul_le_mul (show x % 2 ≤ 1 by omega) hk2) (by decide)), st_or, bit_or k hk c hc _ hxx, st_lit 1, st_shr hx (by decide), nI_add]
      have := hn (gc_wF t 32 8 (nI (c + (x % 2) * 2 ^ k))) (by rw [F_eq, if_pos z]) (fr_wF rfl (fr_refl t))
      rw [if_pos z] at this
      exact this
    · rw [decide_eq_false z]
      refine ⟨fun _ => b_X4_pickSplit_43 hP hm ?_, fun y => absurd rfl y⟩
      rw [nI_1]
      have := hn t (by rw [if_neg z]; exact g8) (fr_refl t)
      rw [if_neg z] at this
      exact this
  have ss : ∀ x g, g < 4 → ∀ u t, ∀ l4 : Value, gc_F t 32 3 = nI st → gc_F t 32 7 = nI u → u < 4 ^ g → x < 2 ^ 31 → (∀ w, ∀ l4 : Value, gc_F w 32 7 = nI (u + (x % (st / 4 ^ g % 4 + 1)) * 4 ^ g) → fr A78 B0 t w → gc_F w 32 8 = gc_F t 32 8 → gc_T P d 0 0 56 56 [.ref 32, .int (nI i), .int (nI (x / (st / 4 ^ g % 4 + 1))), .int (nI (g + 1)), l4] [] w Q) → gc_T P d 0 0 56 56 [.ref 32, .int (nI i), .int (nI x), .int (nI g), l4] [] t Q := by
    intro x g hg u t l4 g3 g7 hu hx hn
    refine b_X4_pickSplit_56 hP hm (pk_le 4 g (fun z => by omega) (fun _ => ⟨hd, ?_⟩))
    rw [g3]
    refine sp_countOf hP hm hst hg ?_
    have hw : st / 4 ^ g % 4 < 4 := Nat.mod_lt _ (by decide)
    have hne : ¬ nI (st / 4 ^ g % 4) + 1 = 0 := by
      rw [nI_1]
      exact nI_ne0 (by omega) (by omega)
    refine ⟨hne, hne, ?_⟩
    have hxx : x % (st / 4 ^ g % 4 + 1) < st / 4 ^ g % 4 + 1 := Nat.mod_lt _ (by omega)
    have h64 : 4 ^ g ≤ 64 := Nat.le_trans (Nat.pow_le_pow_right (by decide) (show g ≤ 3 by omega)) (by decide)
    rw [nI_1, pk_rem hx (by omega) (by omega), pk_div hx (by omega) (by omega), st_lit 2, pk_mul, st_shl (by omega) ?_, g7, st_or, show 2 ^ (2 * g) = 4 ^ g by rw [Nat.pow_mul], dig_or g hg u hu _ (by omega), nI_1]
    · exact hn _ _ (F_eq _ _ _ _) (fr_wF rfl (fr_refl t)) (F_ne _ _ (Or.inr (by decide)))
    · rw [show 2 ^ (2 * g) = 4 ^ g by rw [Nat.pow_mul]]
      exact Nat.lt_of_le_of_lt (Nat.mul_le_mul (show x % (st / 4 ^ g % 4 + 1) ≤ 3 by omega) h64) (by decide)
  have e4 : gc_F (gc_wF s 32 8 0) 32 4 = nI b := by
    rw [F_ne _ _ (Or.inr (by decide))]
    exact h4
  have hfr : ∀ t u, fr A78 B0 t u → gc_F u 32 3 = gc_F t 32 3 ∧ gc_F u 32 4 = gc_F t 32 4 := fun t u g => ⟨fr_F g rfl, fr_F g rfl⟩
  have hb0 : ∀ x, x ≤ i → x < 2 ^ 31 := fun x hx => by omega
  refine bs i 0 (by decide) 0 _ e4 (F_eq _ _ _ _) (by decide) (by omega) fun t1 f1 g1 => ?_
  generalize hx1 : (if b / 2 ^ 0 % 2 = 1 then i / 2 else i) = x1
  generalize hc1 : (if b / 2 ^ 0 % 2 = 1 then 0 + (i % 2) * 2 ^ 0 else 0) = c1 at f1
  have q1 : c1 < 2 ^ 1 ∧ x1 ≤ i := by
    rw [← hc1, ← hx1]
    split <;> omega
  refine bs x1 1 (by decide) c1 t1 ((hfr _ _ g1).2.trans e4) f1 q1.1 (hb0 _ q1.2) fun t2 f2 g2 => ?_
  generalize hx2 : (if b / 2 ^ 1 % 2 = 1 then x1 / 2 else x1) = x2
  generalize hc2 : (if b / 2 ^ 1 % 2 = 1 then c1 + (x1 % 2) * 2 ^ 1 else c1) = c2 at f2
  have q2 : c2 < 2 ^ 2 ∧ x2 ≤ i := by
    rw [← hc2, ← hx2]
    split <;> omega
  refine bs x2 2 (by decide) c2 t2 ((hfr _ _ g2).2.trans ((hfr _ _ g1).2.trans e4)) f2 q2.1 (hb0 _ q2.2) fun t3 f3 g3 => ?_
  generalize hx3 : (if b / 2 ^ 2 % 2 = 1 then x2 / 2 else x2) = x3
  generalize hc3 : (if b / 2 ^ 2 % 2 = 1 then c2 + (x2 % 2) * 2 ^ 2 else c2) = c3 at f3
  have q3 : x3 = i / 2 ^ sb_n b ∧ c3 = bsc b (i % 2 ^ sb_n b) 3 := by
    rw [← hc3, ← hx3, ← hc2, ← hx2, ← hc1, ← hx1]
    clear hi h hx1 hc1 hx2 hc2 hx3 hc3 f1 f2 f3 g1 g2 g3 q1 q2 bs ss hp2 hn3 h4 e4 hfr hb0 hi2
    match b, hb with
    | 0, _ => exact ⟨(Nat.div_one i).symm, rfl⟩
    | 1, _ => show i / 2 = i / 2 ^ 1 ∧ 0 + i % 2 * 1 = 0 + (i % 2 ^ 1 / 1 % 2) * 1; omega
    | 2, _ => show i / 2 = i / 2 ^ 1 ∧ 0 + i % 2 * 2 = 0 + (i % 2 ^ 1 / 1 % 2) * 2; omega
    | 3, _ => show i / 2 / 2 = i / 2 ^ 2 ∧ 0 + i % 2 * 1 + (i / 2 % 2) * 2 = 0 + (i % 2 ^ 2 / 1 % 2) * 1 + (i % 2 ^ 2 / 2 % 2) * 2; omega
    | 4, _ => show i / 2 = i / 2 ^ 1 ∧ 0 + i % 2 * 4 = 0 + (i % 2 ^ 1 / 1 % 2) * 4; omega
    | 5, _ => show i / 2 / 2 = i / 2 ^ 2 ∧ 0 + i % 2 * 1 + (i / 2 % 2) * 4 = 0 + (i % 2 ^ 2 / 1 % 2) * 1 + (i % 2 ^ 2 / 2 % 2) * 4; omega
    | 6, _ => show i / 2 / 2 = i / 2 ^ 2 ∧ 0 + i % 2 * 2 + (i / 2 % 2) * 4 = 0 + (i % 2 ^ 2 / 1 % 2) * 2 + (i % 2 ^ 2 / 2 % 2) * 4; omega
    | 7, _ => show i / 2 / 2 / 2 = i / 2 ^ 3 ∧ 0 + i % 2 * 1 + (i / 2 % 2) * 2 + (i / 2 / 2 % 2) * 4 = 0 + (i % 2 ^ 3 / 1 % 2) * 1 + (i % 2 ^ 3 / 2 % 2) * 2 + (i % 2 ^ 3 / 4 % 2) * 4; omega
  have g03 : fr A78 B0 s t3 := fr_trans (fr_wF rfl (fr_refl s)) (fr_trans g1 (fr_trans g2 g3))
  have hx3i : x3 ≤ i := by
    rw [q3.1]
    exact Nat.div_le_self _ _
  refine b_X4_pickSplit_9 hP hm (pk_le 3 3 (fun _ => ?_) (fun z => by omega))
  have e3 : gc_F (gc_wF t3 32 7 0) 32 3 = nI st := by
    rw [F_ne _ _ (Or.inr (by decide)), (hfr _ _ g03).1]
    exact h3
  have e8 : gc_F (gc_wF t3 32 7 0) 32 8 = nI c3 := by
    rw [F_ne _ _ (Or.inr (by decide))]
    exact f3
  have dv : ∀ x w, x / (w + 1) ≤ x := fun x w => Nat.div_le_self _ _
  refine ss x3 0 (by decide) 0 _ _ e3 (F_eq _ _ _ _) (by decide) (hb0 _ hx3i) fun u1 l1 k1 r1 r8 => ?_
  have m0 : st / 4 ^ 0 % 4 < 4 := Nat.mod_lt _ (by decide)
  have m1 : st / 4 ^ 1 % 4 < 4 := Nat.mod_lt _ (by decide)
  have m2 : st / 4 ^ 2 % 4 < 4 := Nat.mod_lt _ (by decide)
  have n0 : x3 % (st / 4 ^ 0 % 4 + 1) < st / 4 ^ 0 % 4 + 1 := Nat.mod_lt _ (by omega)
  have d1 := dv x3 (st / 4 ^ 0 % 4)
  refine ss _ 1 (by decide) _ u1 l1 ((hfr _ _ r1).1.trans e3) k1 (by omega) (by omega) fun u2 l2 k2 r2 r82 => ?_
  have n1 : x3 / (st / 4 ^ 0 % 4 + 1) % (st / 4 ^ 1 % 4 + 1) < st / 4 ^ 1 % 4 + 1 := Nat.mod_lt _ (by omega)
  have d2 := dv (x3 / (st / 4 ^ 0 % 4 + 1)) (st / 4 ^ 1 % 4)
  refine ss _ 2 (by decide) _ u2 l2 ((hfr _ _ r2).1.trans ((hfr _ _ r1).1.trans e3)) k2 (by omega) (by omega) fun u3 l3 k3 r3 r83 => ?_
  have n2 : x3 / (st / 4 ^ 0 % 4 + 1) / (st / 4 ^ 1 % 4 + 1) % (st / 4 ^ 2 % 4 + 1) < st / 4 ^ 2 % 4 + 1 := Nat.mod_lt _ (by omega)
  have d3 := dv (x3 / (st / 4 ^ 0 % 4 + 1) / (st / 4 ^ 1 % 4 + 1)) (st / 4 ^ 2 % 4)
  refine ss _ 3 (by decide) _ u3 l3 ((hfr _ _ r3).1.trans ((hfr _ _ r2).1.trans ((hfr _ _ r1).1.trans e3))) k3 (by omega) (by omega) fun u4 l4 k4 r4 r84 => ?_
  refine b_X4_pickSplit_56 hP hm (pk_le 4 4 (fun _ => ?_) (fun z => by omega))
  refine h u4 ?_ ?_ (fr_trans (fr_wF rfl g03) (fr_trans r1 (fr_trans r2 (fr_trans r3 r4))))
  · rw [k4, ← q3.1]
    congr 1
    unfold ssd
    simp only [Nat.pow_zero, Nat.div_one, Nat.mul_one, Nat.zero_add, show (4 : Nat) ^ 1 = 4 from rfl, show (4 : Nat) ^ 2 = 16 from rfl, show (4 : Nat) ^ 3 = 64 from rfl]
    omega
  · rw [r84, r83, r82, r8, e8, q3.2]
end Pk
