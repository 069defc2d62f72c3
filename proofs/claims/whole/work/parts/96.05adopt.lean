/-! The class: a new law taken. -/
theorem bits_m1 {n : Nat} (hn : n ≤ 3) : ((1 : Int32) <<< (nI n &&& 31)) - 1 = nI (2 ^ n - 1) := by
  rw [ld_Bsh hn, show (1 : Int32) = nI 1 from rfl, pk_sub (Nat.one_le_two_pow)]
def Aad (q k : Nat) : Bool := (Nat.beq q 10 && Nat.beq k 1) || (Nat.beq q 49 && Nat.ble k 2) || (Nat.ble 51 q && Nat.ble q 53 && Nat.beq k 3) || (Nat.beq q 40 && Nat.beq k 5) || (Nat.beq q 28 && Nat.beq k 16) || (Nat.beq q 45 && Nat.beq k 3)
theorem Aad_iff {q k : Nat} : Aad q k = true ↔ (q = 10 ∧ k = 1) ∨ (q = 49 ∧ k ≤ 2) ∨ (51 ≤ q ∧ q ≤ 53 ∧ k = 3) ∨ (q = 40 ∧ k = 5) ∨ (q = 28 ∧ k = 16) ∨ (q = 45 ∧ k = 3) := by
  unfold Aad
  simp only [Bool.and_eq_true, Bool.or_eq_true, Nat.beq_eq, Nat.ble_eq, or_assoc, and_assoc]
/-- what taking a law changes -/
def ad (L : Nat) (s t : gc_St) : Prop := (∀ q k, Aad q k = false → gc_F t q k = gc_F s q k) ∧ (∀ a, a ≠ 27 → gc_I t a = gc_I s a) ∧ gc_J t = gc_J s ∧ gc_Y t = gc_Y s ∧ (gc_ln t = gc_ln s ∧ gc_lw t = L ∧ gc_dr t = gc_lw s ∧ gc_rl t = gc_rl s ∧ gc_be t = gc_be s) ∧ gc_n t = gc_n s ∧ gc_D t = gc_D s
section Ad
variable {P : gc_Pr} {d : Nat} {s : gc_St} {Q : gc_TQ} {W W0 : ld_W} {L v : Nat}
theorem cl_rows_ad {t : gc_St} (hok : ld_ok W) (hR : cl_rows W0 v s) (hv : v + 1 < 2 ^ 31) (g : ad L s t) (hF : gc_F t 10 1 = nI (v + 1)) : cl_rows W (v + 1) t := by
  obtain ⟨r1, r2, ⟨r3, r4, r5⟩, _⟩ := hR
  obtain ⟨g1, g2, g3, g4, ⟨g5, g6, g7, g8, g9⟩, g10, g11⟩ := g
  have e24 := g2 24 (by decide)
  have eY := g4
  refine ⟨hF, fun i hi => ?_, ⟨?_, fun i a hi ha => ?_, fun i j a hi hj h1 h2 => ?_⟩, fun o p b ho hp hb hh => ?_⟩
  · obtain ⟨u, u1, u2⟩ := r2 i hi
    rw [e24]
    exact ⟨u, by omega, u2⟩
  · rw [g9, g10]
    exact r3
  · rw [eY] at ha
    rw [g10, g11, g9]
    exact r4 i a hi ha
  · rw [eY] at h1 h2
    exact r5 i j a hi hj h1 h2
  · obtain ⟨u, u1, u2⟩ := r2 _ (cl_num_lt ho (show p < 24 by have := hok.1.2.2.2.2; omega) hb)
    rw [e24, u2, nI_eq (by omega) (by omega)] at hh
    omega
theorem F_neA {A : Nat → Nat → Bool} {t : gc_St} {q k q0 k0 : Nat} (x : Int32) (hA : A q k = false) (hB : A q0 k0 = true) : gc_F (gc_wF t q0 k0 x) q k = gc_F t q k := by
  refine F_ne _ _ ?_
  by_cases e : q = q0
  · refine Or.inr fun e2 => ?_
    rw [e, e2, hB] at hA
    exact absurd hA (by decide)
  · exact Or.inl e
theorem sp_adoptDraft (hP : gc_Cl P) (hm : gc_Mo P) (hd : 5 ≤ d) (hL : cl_L L) (hdr : gc_dr s = L) (hl : cl_law W L s) (hok : ld_ok W) (hR : cl_rows W0 v s) (hv : v + 1 < 2 ^ 31)
    (hQ : ∀ t, ad L s t → cl_C W L t → cl_rows W (v + 1) t → (gc_F t 49 0 = gc_F s L 5 ∧ gc_F t 49 1 = nI (2 ^ ld_o W - 1) ∧ gc_F t 49 2 = nI (2 ^ ld_b W - 1)) → (∀ k, k < 3 → gc_F t (51 + k) 3 = 0) → gc_F t 40 5 = 0 → gc_F t 28 16 = 0 → gc_F t 45 3 = 0 → Q none t) : gc_T P d 0 0 124 0 [.ref 0, gc_u, gc_u, gc_u] [] s Q := by
  have hL49 : L ≠ 49 := by
    rcases hL with e | e <;> rw [e] <;> decide
  refine b_X10_adoptDraft_0 hP hm ⟨by omega, ?_⟩
  rw [hdr]
  refine sp_adopt hP hm (by omega) hL hl hok fun g hg => ?_
  have s1F : ∀ q k, (q ≠ 10 ∨ k ≠ 1) → gc_F (gc_wR (gc_wF (gc_wlw s L) 10 1 (gc_F s 10 1 + 1)) 27 g) q k = gc_F s q k := fun q k e => F_ne (gc_wlw s L) _ e
  have s1v : gc_F (gc_wR (gc_wF (gc_wlw s L) 10 1 (gc_F s 10 1 + 1)) 27 g) 10 1 = nI (v + 1) := by
    rw [← nI_1, ← hR.1]
    exact F_eq (gc_wlw s L) 10 1 _
  have s1I : ∀ a, a ≠ 27 → gc_I (gc_wR (gc_wF (gc_wlw s L) 10 1 (gc_F s 10 1 + 1)) 27 g) a = gc_I s a := fun a e => I_wRn (gc_wF (gc_wlw s L) 10 1 (gc_F s 10 1 + 1)) g e
  have s1x : gc_J (gc_wR (gc_wF (gc_wlw s L) 10 1 (gc_F s 10 1 + 1)) 27 g) = gc_J s ∧ gc_Y (gc_wR (gc_wF (gc_wlw s L) 10 1 (gc_F s 10 1 + 1)) 27 g) = gc_Y s ∧ gc_ln (gc_wR (gc_wF (gc_wlw s L) 10 1 (gc_F s 10 1 + 1)) 27 g) = gc_ln s ∧ gc_lw (gc_wR (gc_wF (gc_wlw s L) 10 1 (gc_F s 10 1 + 1)) 27 g) = L ∧ gc_rl (gc_wR (gc_wF (gc_wlw s L) 10 1 (gc_F s 10 1 + 1)) 27 g) = gc_rl s ∧ gc_be (gc_wR (gc_wF (gc_wlw s L) 10 1 (gc_F s 10 1 + 1)) 27 g) = gc_be s ∧ gc_n (gc_wR (gc_wF (gc_wlw s L) 10 1 (gc_F s 10 1 + 1)) 27 g) = gc_n s ∧ gc_D (gc_wR (gc_wF (gc_wlw s L) 10 1 (gc_F s 10 1 + 1)) 27 g) = gc_D s := ⟨rfl, rfl, rfl, rfl, rfl, rfl, rfl, rfl⟩
  revert s1F s1v s1I s1x hg
  generalize gc_wR (gc_wF (gc_wlw s L) 10 1 (gc_F s 10 1 + 1)) 27 g = s1
  intro hg s1F s1v s1I s1x
  obtain ⟨x1, x2, x3, x4, x5, x6, x7, x8⟩ := s1x
  have hl1 : cl_law W L s1 := cl_law_of (s := s) (funext fun k => s1F L k (Or.inl (by rcases hL with e | e <;> rw [e] <;> decide))) (fun j => s1I _ (by have := cl_rS_set hL j; omega)) hl
  show gc_io 2 (gc_lw s1) ∧ gc_T P d 0 0 124 75 [.ref 0, .ref (gc_lw s), .ref (gc_lw s1), .int 0] [] _ Q
  rw [x4]
  refine ⟨cl_io hL, ?_⟩
  rw [F_ne _ _ (Or.inl hL49), F_ne _ _ (Or.inl hL49), F_ne _ _ (Or.inl hL49)]
  have f1 : gc_F (gc_wdr s1 (gc_lw s)) L 1 = nI (ld_o W) := hl1.1.2.1
  have f2 : gc_F (gc_wdr s1 (gc_lw s)) L 2 = nI (ld_b W) := hl1.1.2.2.1
  have f5 : gc_F s1 L 5 = gc_F s L 5 := s1F L 5 (Or.inr (by decide))
  rw [f1, f2, f5, bits_m1 hok.1.2.1, bits_m1 hok.1.2.2.1]
  refine b_X10_adoptDraft_75 hP hm (pk_le 3 0 (fun z => by omega) (fun _ => ⟨(vp_in_nI (by decide) (by decide) : vp_in (nI 0) 3), io_sl (k := 0) (by decide), ?_⟩))
  refine b_X10_adoptDraft_75 hP hm (pk_le 3 1 (fun z => by omega) (fun _ => ⟨(vp_in_nI (by decide) (by decide) : vp_in (nI 1) 3), io_sl (k := 1) (by decide), ?_⟩))
  refine b_X10_adoptDraft_75 hP hm (pk_le 3 2 (fun z => by omega) (fun _ => ⟨(vp_in_nI (by decide) (by decide) : vp_in (nI 2) 3), io_sl (k := 2) (by decide), ?_⟩))
  refine b_X10_adoptDraft_75 hP hm (pk_le 3 3 (fun _ => ?_) (fun z => by omega))
  have aT : ∀ q k, (q = 49 ∧ k ≤ 2) ∨ (51 ≤ q ∧ q ≤ 53 ∧ k = 3) ∨ (q = 40 ∧ k = 5) ∨ (q = 28 ∧ k = 16) ∨ (q = 45 ∧ k = 3) → Aad q k = true := fun q k z => Aad_iff.mpr (Or.inr z)
  show Q none (gc_wF (gc_wF (gc_wF (gc_wF (gc_wF (gc_wF (gc_wF (gc_wF (gc_wF (gc_wdr s1 (gc_lw s)) 49 0 (gc_F s L 5)) 49 1 (nI (2 ^ ld_o W - 1))) 49 2 (nI (2 ^ ld_b W - 1))) 51 3 0) 52 3 0) 53 3 0) 40 5 0) 28 16 0) 45 3 0)
  have hFT : ∀ q k, Aad q k = false → gc_F (gc_wF (gc_wF (gc_wF (gc_wF (gc_wF (gc_wF (gc_wF (gc_wF (gc_wF (gc_wdr s1 (gc_lw s)) 49 0 (gc_F s L 5)) 49 1 (nI (2 ^ ld_o W - 1))) 49 2 (nI (2 ^ ld_b W - 1))) 51 3 0) 52 3 0) 53 3 0) 40 5 0) 28 16 0) 45 3 0) q k = gc_F s q k := by
    intro q k e
    rw [F_neA _ e (by decide), F_neA _ e (by decide), F_neA _ e (by decide), F_neA _ e (by decide), F_neA _ e (by decide), F_neA _ e (by decide), F_neA _ e (by decide), F_neA _ e (by decide), F_neA _ e (by decide)]
    refine s1F q k ?_
    by_cases e1 : q = 10
    · refine Or.inr fun e2 => ?_
      rw [e1, e2] at e
      exact absurd e (by decide)
    · exact Or.inl e1
  have had : ad L s (gc_wF (gc_wF (gc_wF (gc_wF (gc_wF (gc_wF (gc_wF (gc_wF (gc_wF (gc_wdr s1 (gc_lw s)) 49 0 (gc_F s L 5)) 49 1 (nI (2 ^ ld_o W - 1))) 49 2 (nI (2 ^ ld_b W - 1))) 51 3 0) 52 3 0) 53 3 0) 40 5 0) 28 16 0) 45 3 0) := ⟨hFT, fun a e => s1I a e, x1, x2, ⟨x3, x4, rfl, x5, x6⟩, x7, x8⟩
  have hv1 : gc_F (gc_wF (gc_wF (gc_wF (gc_wF (gc_wF (gc_wF (gc_wF (gc_wF (gc_wF (gc_wdr s1 (gc_lw s)) 49 0 (gc_F s L 5)) 49 1 (nI (2 ^ ld_o W - 1))) 49 2 (nI (2 ^ ld_b W - 1))) 51 3 0) 52 3 0) 53 3 0) 40 5 0) 28 16 0) 45 3 0) 10 1 = nI (v + 1) := by
    rw [F_ne _ _ (Or.inl (by decide)), F_ne _ _ (Or.inl (by decide)), F_ne _ _ (Or.inl (by decide)), F_ne _ _ (Or.inl (by decide)), F_ne _ _ (Or.inl (by decide)), F_ne _ _ (Or.inl (by decide)), F_ne _ _ (Or.inl (by decide)), F_ne _ _ (Or.inl (by decide)), F_ne _ _ (Or.inl (by decide))]
    exact s1v
  refine hQ _ had ⟨hL, x4, cl_law_of (s := s) (funext fun k => hFT L k (bf fun z => ?_)) (fun j => s1I _ (by have := cl_rS_set hL j; omega)) hl, hok, hg⟩ (cl_rows_ad hok hR hv had hv1) ⟨?_, ?_, ?_⟩ (fun k hk => ?_) ?_ ?_ ?_
  · have := Aad_iff.mp z
    rcases hL with e | e <;> omega
  · rw [F_ne _ _ (Or.inl (by decide)), F_ne _ _ (Or.inl (by decide)), F_ne _ _ (Or.inl (by decide)), F_ne _ _ (Or.inl (by decide)), F_ne _ _ (Or.inl (by decide)), F_ne _ _ (Or.inl (by decide)), F_ne _ _ (Or.inr (by decide)), F_ne _ _ (Or.inr (by decide)), F_eq]
  · rw [F_ne _ _ (Or.inl (by decide)), F_ne _ _ (Or.inl (by decide)), F_ne _ _ (Or.inl (by decide)), F_ne _ _ (Or.inl (by decide)), F_ne _ _ (Or.inl (by decide)), F_ne _ _ (Or.inl (by decide)), F_ne _ _ (Or.inr (by decide)), F_eq]
  · rw [F_ne _ _ (Or.inl (by decide)), F_ne _ _ (Or.inl (by decide)), F_ne _ _ (Or.inl (by decide)), F_ne _ _ (Or.inl (by decide)), F_ne _ _ (Or.inl (by decide)), F_ne _ _ (Or.inl (by decide)), F_eq]
  · rw [F_ne _ _ (Or.inl (by omega)), F_ne _ _ (Or.inl (by omega)), F_ne _ _ (Or.inl (by omega))]
    by_cases e2 : k = 2
    · rw [e2, F_eq]
    · rw [F_ne _ _ (Or.inl (by omega))]
      by_cases e1 : k = 1
      · rw [e1, F_eq]
      · rw [F_ne _ _ (Or.inl (by omega)), show k = 0 by omega, F_eq]
  · rw [F_ne _ _ (Or.inl (by decide)), F_ne _ _ (Or.inl (by decide)), F_eq]
  · rw [F_ne _ _ (Or.inl (by decide)), F_eq]
  · rw [F_eq]
end Ad
