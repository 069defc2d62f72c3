/-! The class: one word after the other. -/
/-- the words stand there, the i-th is ahead -/
def cpw (b : Nat → Nat) (n T i : Nat) (s : gc_St) : Prop := tk_C b n T ∧ (∀ j, j < T → tkF b n s j (tk_st b n j)) ∧ gc_F s 3 7 = nI i ∧ i < T
theorem cpw_fr {A : Nat → Nat → Bool} {B : Nat → Bool} {b : Nat → Nat} {n T i : Nat} {s t : gc_St} (h : cpw b n T i s) (g : fr A B s t) (hA : A 3 7 = false) (hB : ∀ a, 4 ≤ a → a ≤ 7 → B a = false) : cpw b n T i t := by
  obtain ⟨h1, h2, h3, h4⟩ := h
  refine ⟨h1, fun j hj => ?_, (fr_F g hA).trans h3, h4⟩
  have := h2 j hj
  unfold tkF at this ⊢
  rw [fr_I g (hB 4 (by decide) (by decide)), fr_I g (hB 5 (by decide) (by decide)), fr_I g (hB 7 (by decide) (by decide)), fr_J g (hB 6 (by decide) (by decide))]
  exact this
/-- taken: its place, its name, its number -/
def tkn (s t : gc_St) (i p : Nat) : Prop := gc_F t 3 7 = nI (i + 1) ∧ gc_F t 3 8 = nI p ∧ gc_ln t = gc_J s 6 i ∧ gc_F t 3 10 = gc_I s 7 i
def Atk (q k : Nat) : Bool := Nat.beq q 3 && (Nat.ble 7 k && Nat.ble k 10)
def Abl (q k : Nat) : Bool := Nat.beq q 3 && (Nat.beq k 12 || Nat.beq k 13)
def Aob (q k : Nat) : Bool := Nat.beq q 3 && (Nat.ble 12 k && Nat.ble k 15)
/-- a fault that ends it -/
def blm (t : gc_St) (x y : Int32) : Prop := gc_F t 3 12 = x ∧ gc_F t 3 13 = y
section Wd
variable {P : gc_Pr} {d : Nat} {s : gc_St} {Q : gc_TQ} {b : Nat → Nat} {n T i : Nat}
theorem cpw_i (h : cpw b n T i s) : i ≤ 400 := by
  have := h.1.2.1
  have := h.2.2.2
  omega
theorem sp_kindAhead (hP : gc_Cl P) (hm : gc_Mo P) (h : cpw b n T i s) (hQ : Q (some (.int (ck b n i))) s) : gc_T P d 0 0 103 0 [.ref 3] [] s Q := by
  have h400 := cpw_i h
  refine b_X8_kindAhead_0 hP hm ?_
  rw [h.2.2.1, nI_clamp (by omega), (h.2.1 i h.2.2.2).1]
  exact ⟨vp_in_nI (by omega) (by decide), hQ⟩
theorem sp_placeAhead (hP : gc_Cl P) (hm : gc_Mo P) (h : cpw b n T i s) (hQ : Q (some (.int (nI (tk_st b n i)))) s) : gc_T P d 0 0 104 0 [.ref 3] [] s Q := by
  have h400 := cpw_i h
  refine b_X8_placeAhead_0 hP hm ?_
  rw [h.2.2.1, nI_clamp (by omega), (h.2.1 i h.2.2.2).2.1]
  exact ⟨vp_in_nI (by omega) (by decide), hQ⟩
theorem sp_blame (hP : gc_Cl P) (hm : gc_Mo P) {x y : Int32} (hQ : ∀ t, fr Abl B0 s t → blm t x y → Q (some (.int 0)) t) : gc_T P d 0 0 108 0 [.ref 3, .int x, .int y] [] s Q :=
  b_X8_blame_0 hP hm (hQ _ (fr_wF rfl (fr_wF rfl (fr_refl s))) ⟨by rw [F_ne _ _ (Or.inr (by decide)), F_eq], F_eq _ _ _ _⟩)
/-- one taken, or there is no room -/
theorem sp_take (hP : gc_Cl P) (hm : gc_Mo P) (h : cpw b n T i s) (hk : ck b n i ≠ 0 ∧ ck b n i ≠ 1) (h1 : ∀ t, i < 400 → cpw b n T (i + 1) t → tkn s t i (tk_st b n i) → fr Atk B0 s t → Q (some (.int 1)) t) (h2 : ∀ t, i = 400 → fr Abl B0 s t → blm t 2 (nI (tk_st b n i)) → Q (some (.int 0)) t) : gc_T P d 0 0 106 0 [.ref 3] [] s Q := by
  have h400 := cpw_i h
  refine b_X8_take_0 hP hm ?_
  rw [h.2.2.1, nI_clamp (by omega), (h.2.1 i h.2.2.2).2.1]
  refine pk_lt i 400 (fun z => ⟨vp_in_nI (by omega) (by decide), vp_in_nI (by omega) (by decide), vp_in_nI (by omega) (by decide), ?_⟩) (fun z => ⟨vp_in_nI (by omega) (by decide), ?_⟩)
  · rw [nI_1]
    have g : fr Atk B0 s (gc_wF (gc_wF (gc_wln (gc_wF s 3 8 (nI (tk_st b n i))) (gc_J s 6 i)) 3 10 (gc_I s 7 i)) 3 7 (nI (i + 1))) := fr_wF rfl (fr_wF rfl (fr_wln rfl (fr_wF rfl (fr_refl s))))
    refine h1 _ z ⟨h.1, fun j hj => ?_, F_eq _ _ _ _, ?_⟩ ⟨F_eq _ _ _ _, ?_, rfl, ?_⟩ g
    · have := h.2.1 j hj
      unfold tkF at this ⊢
      rw [fr_I g rfl, fr_I g rfl, fr_I g rfl, fr_J g rfl]
      exact this
    · have h3 := h.2.2.2
      have h4 := h.1.2.2.2
      refine Decidable.byContradiction fun hge => ?_
      have hT : T = i + 1 := by omega
      rw [hT, Nat.add_sub_cancel] at h4
      rcases h4 with e | e | e
      · omega
      · exact hk.1 e
      · exact hk.2 e
    · rw [F_ne _ _ (Or.inr (by decide)), F_ne _ _ (Or.inr (by decide))]
      show gc_F (gc_wF s 3 8 (nI (tk_st b n i))) 3 8 = nI (tk_st b n i)
      rw [F_eq]
    · rw [F_ne _ _ (Or.inr (by decide)), F_eq]
  · exact h2 _ (by omega) (fr_wF rfl (fr_wF rfl (fr_refl s))) ⟨by rw [F_ne _ _ (Or.inr (by decide)), F_eq], F_eq _ _ _ _⟩
theorem sp_accept (hP : gc_Cl P) (hm : gc_Mo P) (hd : 1 ≤ d) {x : Int32} (hx : x ≠ 0 ∧ x ≠ 1) (h : cpw b n T i s) (h1 : ∀ t, ck b n i = x → i < 400 → cpw b n T (i + 1) t → tkn s t i (tk_st b n i) → fr Atk B0 s t → Q (some (.int 1)) t) (h2 : ∀ t, ck b n i = x → i = 400 → fr Abl B0 s t → blm t 2 (nI (tk_st b n i)) → Q (some (.int 0)) t) (h3 : ∀ t, ck b n i ≠ x → fr Abl B0 s t → blm t 1 (nI (tk_st b n i)) → Q (some (.int 0)) t) : gc_T P d 0 0 107 0 [.ref 3, .int x] [] s Q := by
  have h400 := cpw_i h
  refine b_X8_accept_0 hP hm ?_
  rw [h.2.2.1, nI_clamp (by omega), (h.2.1 i h.2.2.2).1, (h.2.1 i h.2.2.2).2.1]
  refine ⟨vp_in_nI (by omega) (by decide), fun z => ⟨vp_in_nI (by omega) (by decide), hd, sp_blame hP hm fun t t1 t2 => ⟨Or.inl rfl, h3 t z t1 t2⟩⟩, fun z => ⟨hd, sp_take hP hm h ?_ (fun t t1 t2 t3 t4 => ⟨Or.inr rfl, h1 t z t1 t2 t3 t4⟩) (fun t t1 t2 t3 => ⟨Or.inl rfl, h2 t z t1 t2 t3⟩)⟩⟩
  have z' : ck b n i = x := z
  rw [z']
  exact hx
/-- a fault that is told only if the text has none of the others -/
theorem sp_object (hP : gc_Cl P) (hm : gc_Mo P) {x : Int32} (h11 : gc_F s 3 11 = 0 ∨ gc_F s 3 11 = 1) (h1 : ∀ t, gc_F s 3 11 = 1 → fr Aob B0 s t → gc_F t 3 12 = gc_F s 3 12 → gc_F t 3 13 = gc_F s 3 13 → gc_F t 3 14 = (if gc_F s 3 14 = 0 then x else gc_F s 3 14) → gc_F t 3 15 = (if gc_F s 3 14 = 0 then gc_F s 3 8 else gc_F s 3 15) → Q (some (.int 1)) t) (h2 : ∀ t, gc_F s 3 11 = 0 → fr Abl B0 s t → blm t x (gc_F s 3 8) → Q (some (.int 0)) t) : gc_T P d 0 0 109 0 [.ref 3, .int x] [] s Q := by
  refine b_X8_object_0 hP hm ⟨fun z => ?_, fun z => ?_⟩
  · have e1 : gc_F s 3 11 = 1 := h11.elim (fun y => absurd y z) id
    rw [e1]
    refine ⟨fun y => ⟨Or.inr rfl, h1 s e1 (fr_refl s) rfl rfl ?_ ?_⟩, fun y => ⟨Or.inr rfl, h1 _ e1 (fr_wF rfl (fr_wF rfl (fr_refl s))) ?_ ?_ ?_ ?_⟩⟩
    · rw [if_neg y]
    · rw [if_neg y]
    · rw [F_ne _ _ (Or.inr (by decide)), F_ne _ _ (Or.inr (by decide))]
    · rw [F_ne _ _ (Or.inr (by decide)), F_ne _ _ (Or.inr (by decide))]
    · rw [F_ne _ _ (Or.inr (by decide)), F_eq, if_pos y]
    · rw [F_eq, if_pos y]
  · rw [z]
    exact ⟨Or.inl rfl, h2 _ z (fr_wF rfl (fr_wF rfl (fr_refl s))) ⟨by rw [F_ne _ _ (Or.inr (by decide)), F_eq], F_eq _ _ _ _⟩⟩
end Wd
