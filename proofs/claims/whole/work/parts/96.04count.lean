/-! Both: COUNT. -/
def hs_n (sl : Nat → Option (Nat × Nat × Nat)) : Nat := (if (sl 0).isSome then 1 else 0) + (if (sl 1).isSome then 1 else 0) + (if (sl 2).isSome then 1 else 0)
/-- the eleven counts -/
def ct_f (W : ld_W) (h : Nat × Nat × Nat) (n m : Nat) (sl : Nat → Option (Nat × Nat × Nat)) (x : Int32) (j : Nat) : Int32 :=
  match j with
  | 0 => nI (ld_g W)
  | 1 => nI (ld_o W)
  | 2 => nI (ld_b W)
  | 3 => nI (ld_c W)
  | 4 => nI (ld_p W)
  | 5 => nI h.1
  | 6 => nI h.2.1
  | 7 => nI h.2.2
  | 8 => nI n
  | 9 => nI (hs_n sl)
  | _ => x
theorem bt {b : Bool} (z : ¬ b = false) : b = true := by
  cases b
  · exact absurd rfl z
  · rfl
theorem toInt_nI {x : Int32} {j : Nat} (hj : j < 2 ^ 31) : x.toInt = (j : Int) ↔ x = nI j := by
  constructor
  · intro e
    rw [← Int32.toInt_inj, e, nI_toInt hj]
  · intro e
    rw [e, nI_toInt hj]
section Sp
variable {P : gc_Pr} {d : Nat} {s : gc_St} {Q : gc_TQ} {W : ld_W} {L lv n m : Nat} {h : Nat × Nat × Nat} {sl : Nat → Option (Nat × Nat × Nat)} {x : Int32}
theorem sl_iC {k : Nat} (hs : slC sl s) (hk : k < 3) : (gc_F s (51 + k) 3 = 0 ↔ (sl k).isSome = false) := by
  rcases hs k hk with ⟨e1, e2⟩ | ⟨h, e1, e2, _⟩
  · rw [e1]
    exact ⟨fun _ => rfl, fun _ => e2⟩
  · rw [e1]
    exact ⟨fun z => absurd z e2, fun z => by simp at z⟩
theorem sl_iR {k : Nat} (hs : slR sl s) (hk : k < 3) : (gc_I s 112 k = 0 ↔ (sl k).isSome = false) := by
  rcases hs k hk with ⟨e1, e2⟩ | ⟨h, e1, e2, _⟩
  · rw [e1]
    exact ⟨fun _ => rfl, fun _ => e2⟩
  · rw [e1]
    exact ⟨fun z => absurd z e2, fun z => by simp at z⟩
theorem sp_heldSlots (hP : gc_Cl P) (hm : gc_Mo P) (hs : slC sl s) (hQ : Q (some (.int (nI (hs_n sl)))) s) : gc_T P d 0 0 154 0 [.ref 0, gc_u, gc_u] [] s Q := by
  refine b_X10_heldSlots_0 hP hm ?_
  have step : ∀ k a, k < 3 → gc_T P d 0 0 154 4 [.ref 0, .int (nI (a + (if (sl k).isSome then 1 else 0))), .int (nI (k + 1))] [] s Q → gc_T P d 0 0 154 4 [.ref 0, .int (nI a), .int (nI k)] [] s Q := by
    intro k a hk hT
    refine b_X10_heldSlots_4 hP hm (pk_le 3 k (fun z => by omega) (fun _ => ?_))
    rw [nI_clamp (by omega), sl_iC hs hk]
    refine ⟨vp_in_nI hk (by decide), io_sl hk, fun z => b_X10_heldSlots_24 hP hm ?_, fun z => b_X10_heldSlots_24 hP hm ?_⟩
    · rw [z] at hT
      rw [nI_1]
      exact hT
    · rw [show (sl k).isSome = true from bt z] at hT
      rw [nI_1, nI_1]
      exact hT
  refine step 0 0 (by decide) (step 1 _ (by decide) (step 2 _ (by decide) (b_X10_heldSlots_4 hP hm (pk_le 3 3 (fun _ => ?_) (fun z => by omega)))))
  rw [Nat.zero_add]
  exact hQ
theorem sp_countC (hP : gc_Cl P) (hm : gc_Mo P) (hd : 1 ≤ d) (hC : cl_C W L s) (hh : gc_F s 49 0 = nI h.1 ∧ gc_F s 49 1 = nI h.2.1 ∧ gc_F s 49 2 = nI h.2.2) (hn : gc_F s 1 1 = nI n) (hs : slC sl s) (hx : gc_F s 40 5 = x) {c : Int32}
    (h1 : ∀ j, j < 11 → c = nI j → Q (some (.int (ct_f W h n m sl x j))) s) (h2 : ∀ k, k < ld_c W → c = nI (20 + k) → Q (some (.int (nI (ld_wo W k)))) s) (h3 : (∀ j, j < 11 → c ≠ nI j) → (∀ k, k < ld_c W → c ≠ nI (20 + k)) → Q (some (.int (-1))) s) : gc_T P d 0 0 153 0 [.ref 0, .int c, gc_u] [] s Q := by
  have hc6 := hC.2.2.2.1.1.2.2.2.1
  have hl := hC.2.2.1.1
  have rest : (∀ k, k < ld_c W → c ≠ nI (20 + k)) → gc_T P d 0 0 153 35 [.ref 0, .int c, .ref L] [] s Q := by
    intro hno
    refine b_X10_count_35 hP hm ?_
    rw [hl.1, hl.2.1, hl.2.2.1, hl.2.2.2.1, hl.2.2.2.2, hh.1, hh.2.1, hh.2.2, hn, hx]
    have io := cl_io hC.1
    refine ⟨fun e => ⟨io, h1 0 (by decide) ((toInt_nI (by decide)).mp e)⟩, fun e => ⟨io, h1 1 (by decide) ((toInt_nI (by decide)).mp e)⟩, fun e => ⟨io, h1 2 (by decide) ((toInt_nI (by decide)).mp e)⟩, fun e => ⟨io, h1 3 (by decide) ((toInt_nI (by decide)).mp e)⟩, fun e => ⟨io, h1 4 (by decide) ((toInt_nI (by decide)).mp e)⟩, fun e => h1 5 (by decide) ((toInt_nI (by decide)).mp e), fun e => h1 6 (by decide) ((toInt_nI (by decide)).mp e), fun e => h1 7 (by decide) ((toInt_nI (by decide)).mp e), fun e => h1 8 (by decide) ((toInt_nI (by decide)).mp e), fun e => ⟨hd, sp_heldSlots hP hm hs (h1 9 (by decide) ((toInt_nI (by decide)).mp e))⟩, fun e => h1 10 (by decide) ((toInt_nI (by decide)).mp e), fun e => h3 (fun j hj ej => ?_) hno⟩
    rw [ej, nI_toInt (by omega)] at e
    omega
  refine b_X10_count_0 hP hm ?_
  rw [hC.2.1, hl.2.2.2.1]
  refine ⟨fun z => rest fun k hk e => ?_, fun z => ⟨cl_io hC.1, fun y => rest fun k hk e => ?_, fun y => ?_⟩⟩
  · rw [e, st_lit 20, nI_ltI (by omega) (by decide)] at z
    omega
  · rw [e, st_lit 20, nI_add, nI_leI (by omega) (by omega)] at y
    omega
  · have hz : ¬ c < 0 := by
      intro w
      refine z ?_
      rw [Int32.lt_iff_toInt_lt] at w ⊢
      rw [show (0 : Int32).toInt = 0 from rfl] at w
      rw [show (20 : Int32).toInt = 20 from rfl]
      omega
    obtain ⟨j, hj, rfl⟩ := nI_of hz
    rw [st_lit 20, nI_add, nI_leI (by omega) hj] at y
    rw [st_lit 20, nI_ltI hj (by decide)] at z
    rw [st_lit 20, pk_sub (by omega), nI_clamp (by omega), cl_wo hC.2.2.1 (by omega)]
    exact ⟨vp_in_nI (by omega) (by decide), h2 (j - 20) (by omega) (by rw [show 20 + (j - 20) = j by omega])⟩
theorem sp_mcount (hP : gc_Cl P) (hm : gc_Mo P) (hd : 2 ≤ d) (hl : rf_law W lv s) (hh : rqh h s) (hn : gc_F s 67 3 = nI n) (hs : slR sl s) (hx : gc_F s 67 77 = x) {c : Int32}
    (h1 : ∀ j, j < 11 → c = nI j → Q (some (.int (ct_f W h n m sl x j))) s) (h2 : ∀ k, k < ld_c W → c = nI (20 + k) → Q (some (.int (nI (ld_wo W k)))) s) (h3 : (∀ j, j < 11 → c ≠ nI j) → (∀ k, k < ld_c W → c ≠ nI (20 + k)) → Q (some (.int (-1))) s) : gc_T P d 0 0 293 0 [.ref 67, .int c] [] s Q := by
  have hc6 := hl.1.2.2.1.2.2.2.1
  have hlv := hl.1.1
  have hl2 := hl.2.1
  refine b_X11_count_0 hP hm ?_
  rw [hl.1.2.1, nI_clamp (by omega), hl2.1, hl2.2.1, hl2.2.2.1, hl2.2.2.2.1, hl2.2.2.2.2, hh.1, hh.2.1, hh.2.2, hn, hx]
  have io : vp_in (nI lv) 2 := vp_in_nI hlv (by decide)
  refine ⟨fun e => ⟨io, h1 0 (by decide) ((toInt_nI (by decide)).mp e)⟩, fun e => ⟨io, h1 1 (by decide) ((toInt_nI (by decide)).mp e)⟩, fun e => ⟨io, h1 2 (by decide) ((toInt_nI (by decide)).mp e)⟩, fun e => ⟨io, h1 3 (by decide) ((toInt_nI (by decide)).mp e)⟩, fun e => ⟨io, h1 4 (by decide) ((toInt_nI (by decide)).mp e)⟩, fun e => h1 5 (by decide) ((toInt_nI (by decide)).mp e), fun e => h1 6 (by decide) ((toInt_nI (by decide)).mp e), fun e => h1 7 (by decide) ((toInt_nI (by decide)).mp e), fun e => h1 8 (by decide) ((toInt_nI (by decide)).mp e), fun e => ?_, fun e => h1 10 (by decide) ((toInt_nI (by decide)).mp e), fun e => ⟨by omega, ?_⟩⟩
  · have hfin := h1 9 (by decide) ((toInt_nI (by decide)).mp e)
    have hfin : Q (some (.int (nI (hs_n sl)))) s := hfin
    have i0 : ∀ a, gc_I s 112 (nI a).toNatClampNeg = gc_I s 112 (nI a).toNatClampNeg := fun _ => rfl
    rw [show (0 : Int32).toNatClampNeg = 0 by decide, sl_iR hs (by decide)]
    have g2 : ∀ a b : Nat, (nI (a + b + (if (sl 2).isSome then 1 else 0)) = nI (hs_n sl)) → gc_T P d 0 0 293 158 [.ref 67, .int c] [.int (nI b), .int (nI a)] s Q := by
      intro a b hab
      refine b_X11_count_158 hP hm ?_
      rw [show (2 : Int32).toNatClampNeg = 2 by decide, sl_iR hs (by decide), nI_add]
      refine ⟨(vp_in_nI (by decide) (by decide) : vp_in (nI 2) 3), fun z => ?_, fun z => ?_⟩
      · rw [z] at hab
        rw [Int32.add_zero, show nI (a + b) = nI (hs_n sl) from hab]
        exact hfin
      · rw [show (sl 2).isSome = true from bt z] at hab
        rw [nI_1, show nI (a + b + 1) = nI (hs_n sl) from hab]
        exact hfin
    have g1 : ∀ a : Nat, (nI (a + (if (sl 1).isSome then 1 else 0) + (if (sl 2).isSome then 1 else 0)) = nI (hs_n sl)) → gc_T P d 0 0 293 144 [.ref 67, .int c] [.int (nI a)] s Q := by
      intro a hab
      refine b_X11_count_144 hP hm ?_
      rw [show (1 : Int32).toNatClampNeg = 1 by decide, sl_iR hs (by decide)]
      refine ⟨(vp_in_nI (by decide) (by decide) : vp_in (nI 1) 3), fun z => ?_, fun z => ?_⟩
      · rw [z] at hab
        exact g2 a 0 hab
      · rw [show (sl 1).isSome = true from bt z] at hab
        exact g2 a 1 hab
    refine ⟨(vp_in_nI (by decide) (by decide) : vp_in (nI 0) 3), fun z => g1 0 ?_, fun z => g1 1 ?_⟩
    · skip
      unfold hs_n
      rw [z]
      rfl
    · skip
      unfold hs_n
      rw [show (sl 0).isSome = true from bt z]
      rfl
  · have hno : ∀ j, j < 11 → c ≠ nI j := by
      intro j hj ej
      rw [ej, nI_toInt (by omega)] at e
      omega
    have e20 : ∀ k, c - 20 = nI k → c = nI (20 + k) := by
      intro k ek
      rw [← nI_add, ← ek, show nI 20 = (20 : Int32) from rfl, Int32.add_comm, Int32.sub_add_cancel]
    refine sp_isClaim hP hm (by omega) hl (fun k hk ek => ⟨fun y => absurd y (by decide), fun _ => ?_⟩) (fun hk => ⟨fun _ => h3 hno fun k hk2 ek => hk k hk2 ?_, fun y => absurd rfl y⟩)
    · rw [hl.1.2.1, e20 k ek, st_lit 6, pk_mul, nI_add, st_lit 20, pk_sub (by omega), show 6 * lv + (20 + k) - 20 = 6 * lv + k by omega, nI_clamp (by omega), (hl.2.2.2.2.2.1 k hk).1]
      exact ⟨vp_in_nI (by omega) (by decide), h2 k hk (e20 k ek)⟩
    · rw [ek, st_lit 20, pk_sub (by omega), show 20 + k - 20 = k by omega]
end Sp
