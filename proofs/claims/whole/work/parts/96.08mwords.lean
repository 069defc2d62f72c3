/-! The reference: one word after the other. -/
/-- the reference's kind of the i-th -/
def rk (b : Nat → Nat) (n i : Nat) : Int32 := tk_kd k27 b n (tk_st b n i)
/-- the words stand there, the i-th is ahead -/
def rpw (b : Nat → Nat) (n T i : Nat) (s : gc_St) : Prop := tk_T b n T ∧ (∀ j, j < T → gc_I s 71 j = rk b n j ∧ gc_I s 72 j = nI (tk_st b n j) ∧ gc_I s 73 j = tk_vl b n (tk_st b n j) ∧ gc_J s 74 j = lN (tk_na b n (tk_st b n j))) ∧ gc_F s 67 12 = nI i ∧ i < T
def Am12 (q k : Nat) : Bool := Nat.beq q 67 && Nat.beq k 12
def Amf (q k : Nat) : Bool := Nat.beq q 67 && (Nat.beq k 14 || Nat.beq k 15)
def Amw (q k : Nat) : Bool := Nat.beq q 67 && (Nat.beq k 16 || Nat.beq k 17)
theorem rpw_fr {A : Nat → Nat → Bool} {B : Nat → Bool} {b : Nat → Nat} {n T i : Nat} {s t : gc_St} (h : rpw b n T i s) (g : fr A B s t) (hA : A 67 12 = false) (hB : ∀ a, 71 ≤ a → a ≤ 74 → B a = false) : rpw b n T i t := by
  obtain ⟨h1, h2, h3, h4⟩ := h
  refine ⟨h1, fun j hj => ?_, (fr_F g hA).trans h3, h4⟩
  rw [fr_I g (hB 71 (by decide) (by decide)), fr_I g (hB 72 (by decide) (by decide)), fr_I g (hB 73 (by decide) (by decide)), fr_J g (hB 74 (by decide) (by decide))]
  exact h2 j hj
section We
variable {P : gc_Pr} {d : Nat} {s : gc_St} {Q : gc_TQ} {b : Nat → Nat} {n T i : Nat}
theorem rpw_i (h : rpw b n T i s) : i ≤ 400 := by
  have := h.1.1
  have := h.2.2.2
  omega
theorem rk_n (h : rk b n i ≠ 0) : tk_st b n i < n := by
  refine Decidable.byContradiction fun hge => h ?_
  unfold rk tk_kd
  rw [if_pos (Nat.le_of_not_lt hge)]
theorem rpw_S (h : rpw b n T i s) (hk : rk b n i ≠ 0) (hi : i < 400) : i + 1 < T := by
  have h1 := rk_n hk
  have h2 := h.2.2.2
  rcases h.1.2 with ⟨e, _⟩ | ⟨_, e, _⟩
  · omega
  · refine Decidable.byContradiction fun hge => ?_
    rw [show T - 1 = i by omega] at e
    omega
theorem sp_mis (hP : gc_Cl P) (hm : gc_Mo P) {x : Int32} (h : rpw b n T i s) (h14 : gc_F s 67 14 = 0) (hQ : Q (some (.int (cb (decide (rk b n i = x))))) s) : gc_T P d 0 0 184 0 [.ref 67, .int x] [] s Q := by
  have h400 := rpw_i h
  refine b_X11_is_0 hP hm ⟨fun z => absurd h14 z, fun _ => ?_⟩
  rw [h.2.2.1, nI_clamp (by omega), (h.2.1 i h.2.2.2).1]
  refine ⟨vp_in_nI (by omega) (by decide), fun z => ?_, fun z => ?_⟩
  · rw [decide_eq_false z] at hQ
    exact hQ
  · rw [decide_eq_true z] at hQ
    exact hQ
theorem sp_misF (hP : gc_Cl P) (hm : gc_Mo P) {x : Int32} (h14 : gc_F s 67 14 ≠ 0) (hQ : Q (some (.int 0)) s) : gc_T P d 0 0 184 0 [.ref 67, .int x] [] s Q :=
  b_X11_is_0 hP hm ⟨fun _ => hQ, fun z => absurd z h14⟩
/-- a fault that ends it -/
def mbl (t : gc_St) (x y : Int32) : Prop := gc_F t 67 14 = x ∧ gc_F t 67 15 = y
theorem sp_mfail (hP : gc_Cl P) (hm : gc_Mo P) {x : Int32} (h : rpw b n T i s) (h14 : gc_F s 67 14 = 0) (hQ : ∀ t, fr Amf B0 s t → mbl t x (nI (tk_st b n i)) → Q none t) : gc_T P d 0 0 185 0 [.ref 67, .int x] [] s Q := by
  have h400 := rpw_i h
  refine b_X11_fail_0 hP hm ?_
  rw [h14, h.2.2.1, nI_clamp (by omega), (h.2.1 i h.2.2.2).2.1]
  exact ⟨fun _ => ⟨vp_in_nI (by omega) (by decide), hQ _ (fr_wF rfl (fr_wF rfl (fr_refl s))) ⟨by rw [F_ne _ _ (Or.inr (by decide)), F_eq], F_eq _ _ _ _⟩⟩, fun y => absurd (by decide) y⟩
theorem sp_mfailF (hP : gc_Cl P) (hm : gc_Mo P) {x : Int32} (h14 : ¬ gc_F s 67 14 ≤ 0) (hQ : Q none s) : gc_T P d 0 0 185 0 [.ref 67, .int x] [] s Q :=
  b_X11_fail_0 hP hm ⟨fun z => absurd z h14, fun _ => hQ⟩
theorem sp_mgoesOn (hP : gc_Cl P) (hm : gc_Mo P) (hd : 1 ≤ d) (h : rpw b n T i s) (h14 : gc_F s 67 14 = 0) (hk : rk b n i ≠ 0) (h1 : ∀ t, i < 400 → rpw b n T (i + 1) t → fr Am12 B0 s t → Q none t) (h2 : ∀ t, i = 400 → fr Amf B0 s t → mbl t 2 (nI (tk_st b n i)) → Q none t) : gc_T P d 0 0 187 0 [.ref 67] [] s Q := by
  have h400 := rpw_i h
  refine b_X11_goesOn_0 hP hm ?_
  rw [h.2.2.1, nI_1, show (400 : Int32) = nI 400 from rfl, nI_eq (by omega) (by decide)]
  refine ⟨fun z => ?_, fun z => ⟨hd, sp_mfail hP hm h h14 fun t t1 t2 => h2 t z t1 t2⟩⟩
  have g : fr Am12 B0 s (gc_wF s 67 12 (nI (i + 1))) := fr_wF rfl (fr_refl s)
  exact h1 _ (by omega) ⟨h.1, h.2.1, F_eq _ _ _ _, rpw_S h hk (by omega)⟩ g
theorem sp_mmust (hP : gc_Cl P) (hm : gc_Mo P) (hd : 2 ≤ d) {x : Int32} (hx : x ≠ 0) (h : rpw b n T i s) (h14 : gc_F s 67 14 = 0) (h1 : ∀ t, rk b n i = x → i < 400 → rpw b n T (i + 1) t → fr Am12 B0 s t → Q none t) (h2 : ∀ t, rk b n i = x → i = 400 → fr Amf B0 s t → mbl t 2 (nI (tk_st b n i)) → Q none t) (h3 : ∀ t, rk b n i ≠ x → fr Amf B0 s t → mbl t 1 (nI (tk_st b n i)) → Q none t) : gc_T P d 0 0 188 0 [.ref 67, .int x] [] s Q := by
  refine b_X11_must_0 hP hm ⟨by omega, sp_mis hP hm h h14 ?_⟩
  by_cases e : rk b n i = x
  · rw [decide_eq_true e]
    exact ⟨fun y => absurd y (by decide), fun _ => ⟨by omega, sp_mgoesOn hP hm (by omega) h h14 (by rw [e]; exact hx) (fun t t1 t2 t3 => h1 t e t1 t2 t3) (fun t t1 t2 t3 => h2 t e t1 t2 t3)⟩⟩
  · rw [decide_eq_false e]
    exact ⟨fun _ => ⟨by omega, sp_mfail hP hm h h14 fun t t1 t2 => h3 t e t1 t2⟩, fun y => absurd rfl y⟩
theorem sp_mmustF (hP : gc_Cl P) (hm : gc_Mo P) (hd : 1 ≤ d) {x : Int32} (h14 : ¬ gc_F s 67 14 ≤ 0) (hQ : Q none s) : gc_T P d 0 0 188 0 [.ref 67, .int x] [] s Q :=
  b_X11_must_0 hP hm ⟨hd, sp_misF hP hm (fun e => h14 (by rw [e]; decide)) ⟨fun _ => ⟨hd, sp_mfailF hP hm h14 hQ⟩, fun y => absurd rfl y⟩⟩
end We
