/-! Names given. -/
def A6 (L q k : Nat) : Bool := Nat.beq q L && Nat.beq k 6
def Bn (L a : Nat) : Bool := Nat.beq a (gc_rS L 17) || Nat.beq a (gc_rS L 18)
theorem J_eqN (s : gc_St) (a i : Nat) (x : Int64) : gc_J (gc_wJ s a i x) a i = x := by
  rw [rw_J_wJ, if_pos rfl, if_pos rfl]
theorem J_neN (s : gc_St) {a i a2 i2 : Nat} (x : Int64) (h : a2 ≠ a ∨ i2 ≠ i) : gc_J (gc_wJ s a i x) a2 i2 = gc_J s a2 i2 := by
  rw [rw_J_wJ]
  by_cases e : a2 = a
  · rw [if_pos e, if_neg (h.elim (fun z => absurd e z) id), e]
  · rw [if_neg e]
theorem rS_1718 {L : Nat} (h : cl_L L) : gc_rS L 17 ≠ gc_rS L 18 := by
  rcases h with rfl | rfl <;> decide
section Ng
variable {P : gc_Pr} {d : Nat} {s : gc_St} {Q : gc_TQ} {L lv : Nat} {nl : List (List Nat × Nat × Nat)} {w : List Nat}
theorem sp_giveName (hP : gc_Cl P) (hm : gc_Mo P) (hL : cl_L L) (hn : nmC nl L s) (h16 : nl.length < 16) (hw : wok w) {kd ix : Nat} (hQ : ∀ t, nmC (nl ++ [(w, kd, ix)]) L t → fr (A6 L) (Bn L) s t → Q none t) : gc_T P d 0 0 28 0 [.ref L, .long (lN (wnum 32 w)), gc_u, .int (nI (8 * kd + ix))] [] s Q := by
  obtain ⟨h1, h2, h3⟩ := hn
  refine b_X2_giveName_0 hP hm (cl_io hL) ?_
  rw [h1, nI_clamp (by omega), nI_1]
  refine pk_le 16 nl.length (fun z => by omega) (fun _ => ⟨vp_in_nI h16 (by decide), vp_in_nI h16 (by decide), ?_⟩)
  have hb : ∀ a, a = gc_rS L 17 ∨ a = gc_rS L 18 → Bn L a = true := by
    intro a z
    unfold Bn
    rw [Bool.or_eq_true, Nat.beq_eq, Nat.beq_eq]
    exact z
  have ha : A6 L L 6 = true := by
    unfold A6
    rw [Bool.and_eq_true, Nat.beq_eq, Nat.beq_eq]
    exact ⟨rfl, rfl⟩
  refine hQ _ ⟨?_, ?_, fun k e hk => ?_⟩ (fr_wF ha (fr_wI (hb _ (Or.inr rfl)) (fr_wJ (hb _ (Or.inl rfl)) (fr_refl s))))
  · rw [F_eq, List.length_append]
    rfl
  · rw [List.length_append]
    show nl.length + 1 ≤ 16
    omega
  · show wok e.1 ∧ gc_J (gc_wJ s (gc_rS L 17) nl.length (lN (wnum 32 w))) (gc_rS L 17) k = lN (wnum 32 e.1) ∧ gc_I (gc_wI (gc_wJ s (gc_rS L 17) nl.length (lN (wnum 32 w))) (gc_rS L 18) nl.length (nI (8 * kd + ix))) (gc_rS L 18) k = nI (8 * e.2.1 + e.2.2)
    rcases Nat.lt_trichotomy k nl.length with z | z | z
    · rw [List.getElem?_append_left z] at hk
      rw [J_neN _ _ (Or.inr (by omega)), I_ne _ _ (Or.inr (by omega))]
      exact h3 k e hk
    · rw [z, List.getElem?_append_right (Nat.le_refl _), Nat.sub_self] at hk
      have he : (w, kd, ix) = e := by
        simpa using hk
      rw [z, J_eqN, I_eq, ← he]
      exact ⟨hw, rfl, rfl⟩
    · rw [List.getElem?_eq_none (by rw [List.length_append]; show nl.length + 1 ≤ k; omega)] at hk
      exact absurd hk (by simp)
end Ng
