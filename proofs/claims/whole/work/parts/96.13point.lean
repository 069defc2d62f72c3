/-! The class: a POINT more. -/
def A4L (L q k : Nat) : Bool := Nat.beq q L && Nat.beq k 4
def BpL (L a : Nat) : Bool := Nat.beq a (gc_rS L 13) || (Nat.beq a (gc_rS L 14) || (Nat.beq a (gc_rS L 15) || Nat.beq a (gc_rS L 16)))
theorem rS_p {L : Nat} (h : cl_L L) : gc_rS L 13 ≠ gc_rS L 14 ∧ gc_rS L 13 ≠ gc_rS L 15 ∧ gc_rS L 13 ≠ gc_rS L 16 ∧ gc_rS L 14 ≠ gc_rS L 15 ∧ gc_rS L 14 ≠ gc_rS L 16 ∧ gc_rS L 15 ≠ gc_rS L 16 := by
  rcases h with rfl | rfl <;> decide
theorem gk_p {L : Nat} {s : gc_St} (h : cl_L L) : gc_gk s (gc_rS L 16) = (0, 24) := by
  rcases h with rfl | rfl <;> rfl
section Ap
variable {P : gc_Pr} {d : Nat} {s : gc_St} {Q : gc_TQ} {L p : Nat}
theorem sp_addPoint (hP : gc_Cl P) (hm : gc_Mo P) (hL : cl_L L) {l1 l2 l3 lo : Int32} (hp : p < 24) (hF : gc_F s L 4 = nI p) (hlo : (l1 < 3 ∨ l2 < 0) → lo = nI p) (hlo2 : ¬ l1 < 3 → ¬ l2 < 0 → ∃ q, q < p ∧ l2 = nI q ∧ lo = gc_I s (gc_rS L 16) q)
    (hQ : ∀ t, fr (A4L L) (BpL L) s t → gc_F t L 4 = nI (p + 1) → (gc_I t (gc_rS L 13) p = l1 ∧ gc_I t (gc_rS L 14) p = l2 ∧ gc_I t (gc_rS L 15) p = l3 ∧ gc_I t (gc_rS L 16) p = lo) → (∀ a j, j ≠ p → gc_I t a j = gc_I s a j) → Q (some (.int (nI p))) t) : gc_T P d 0 0 29 0 [.ref L, .int l1, .int l2, .int l3, gc_u, gc_u] [] s Q := by
  obtain ⟨n1, n2, n3, n4, n5, n6⟩ := rS_p hL
  have hb : ∀ a, a = gc_rS L 13 ∨ a = gc_rS L 14 ∨ a = gc_rS L 15 ∨ a = gc_rS L 16 → BpL L a = true := by
    intro a z
    unfold BpL
    simp only [Bool.or_eq_true, Nat.beq_eq]
    exact z
  have ha : A4L L L 4 = true := by
    unfold A4L
    rw [Bool.and_eq_true, Nat.beq_eq, Nat.beq_eq]
    exact ⟨rfl, rfl⟩
  have io := cl_io hL
  refine b_X2_addPoint_0 hP hm io ?_
  rw [hF, nI_clamp (by omega)]
  have fin : ∀ l5, gc_T P d 0 0 29 85 [.ref L, .int l1, .int l2, .int l3, .int (nI p), .int l5] [.int lo, .int (nI p), .ref (gc_rS L 16)] (gc_wI (gc_wI (gc_wI s (gc_rS L 13) p l1) (gc_rS L 14) p l2) (gc_rS L 15) p l3) Q := by
    intro l5
    refine b_X2_addPoint_85 hP hm io ?_
    rw [gk_p hL, nI_clamp (by omega), show gc_F (gc_wI (gc_wI (gc_wI s (gc_rS L 13) p l1) (gc_rS L 14) p l2) (gc_rS L 15) p l3) L 4 = nI p from hF, nI_1]
    refine ⟨rfl, vp_in_nI hp (by decide), hQ _ (fr_wF ha (fr_wI (hb _ (Or.inr (Or.inr (Or.inr rfl)))) (fr_wI (hb _ (Or.inr (Or.inr (Or.inl rfl)))) (fr_wI (hb _ (Or.inr (Or.inl rfl))) (fr_wI (hb _ (Or.inl rfl)) (fr_refl s)))))) (F_eq _ _ _ _) ?_ fun a j hj => ?_⟩
    · show gc_I (gc_wI (gc_wI (gc_wI (gc_wI s (gc_rS L 13) p l1) (gc_rS L 14) p l2) (gc_rS L 15) p l3) (gc_rS L 16) p lo) (gc_rS L 13) p = l1 ∧ gc_I (gc_wI (gc_wI (gc_wI (gc_wI s (gc_rS L 13) p l1) (gc_rS L 14) p l2) (gc_rS L 15) p l3) (gc_rS L 16) p lo) (gc_rS L 14) p = l2 ∧ gc_I (gc_wI (gc_wI (gc_wI (gc_wI s (gc_rS L 13) p l1) (gc_rS L 14) p l2) (gc_rS L 15) p l3) (gc_rS L 16) p lo) (gc_rS L 15) p = l3 ∧ gc_I (gc_wI (gc_wI (gc_wI (gc_wI s (gc_rS L 13) p l1) (gc_rS L 14) p l2) (gc_rS L 15) p l3) (gc_rS L 16) p lo) (gc_rS L 16) p = lo
      refine ⟨?_, ?_, ?_, I_eq _ _ _ _⟩
      · rw [I_ne _ _ (Or.inl n3), I_ne _ _ (Or.inl n2), I_ne _ _ (Or.inl n1), I_eq]
      · rw [I_ne _ _ (Or.inl n5), I_ne _ _ (Or.inl n4), I_eq]
      · rw [I_ne _ _ (Or.inl n6), I_eq]
    · show gc_I (gc_wI (gc_wI (gc_wI (gc_wI s (gc_rS L 13) p l1) (gc_rS L 14) p l2) (gc_rS L 15) p l3) (gc_rS L 16) p lo) a j = gc_I s a j
      rw [I_ne _ _ (Or.inr hj), I_ne _ _ (Or.inr hj), I_ne _ _ (Or.inr hj), I_ne _ _ (Or.inr hj)]
  have no : (l1 < 3 ∨ l2 < 0) → gc_T P d 0 0 29 60 [.ref L, .int l1, .int l2, .int l3, .int (nI p), gc_u] [] (gc_wI (gc_wI (gc_wI s (gc_rS L 13) p l1) (gc_rS L 14) p l2) (gc_rS L 15) p l3) Q := by
    intro z
    refine b_X2_addPoint_60 hP hm io (b_X2_addPoint_61 hP hm io ⟨fun _ => ?_, fun y => absurd rfl y⟩)
    have := fin 0
    rw [hlo z] at this
    exact this
  refine pk_lt p 24 (fun _ => ⟨vp_in_nI hp (by decide), vp_in_nI hp (by decide), vp_in_nI hp (by decide), fun z => no (Or.inl z), fun z => ⟨fun z2 => no (Or.inr z2), fun z2 => ?_⟩⟩) (fun z => by omega)
  obtain ⟨q, q1, q2, q3⟩ := hlo2 z z2
  rw [q2]
  refine pk_le p q (fun y => by omega) (fun _ => b_X2_addPoint_61 hP hm io ⟨fun y => absurd y (by decide), fun _ => ⟨vp_in_nI (by omega) (by decide), ?_⟩⟩)
  have := fin 1
  rw [q3, q2] at this
  rw [nI_clamp (by omega), I_ne _ _ (Or.inl n6.symm), I_ne _ _ (Or.inl n5.symm), I_ne _ _ (Or.inl n3.symm)]
  exact this
end Ap
