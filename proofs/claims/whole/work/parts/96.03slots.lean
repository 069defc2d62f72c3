/-! Both: slots, counts. -/
def supd (sl : Nat → Option (Nat × Nat × Nat)) (k : Nat) (h : Nat × Nat × Nat) : Nat → Option (Nat × Nat × Nat) := fun j => if j = k then some h else sl j
def slC (sl : Nat → Option (Nat × Nat × Nat)) (s : gc_St) : Prop := ∀ k, k < 3 → (sl k = none ∧ gc_F s (51 + k) 3 = 0) ∨ ∃ h, sl k = some h ∧ gc_F s (51 + k) 3 ≠ 0 ∧ gc_F s (51 + k) 0 = nI h.1 ∧ gc_F s (51 + k) 1 = nI h.2.1 ∧ gc_F s (51 + k) 2 = nI h.2.2
def slR (sl : Nat → Option (Nat × Nat × Nat)) (s : gc_St) : Prop := ∀ k, k < 3 → (sl k = none ∧ gc_I s 112 k = 0) ∨ ∃ h, sl k = some h ∧ gc_I s 112 k ≠ 0 ∧ gc_I s 113 k = nI h.1 ∧ gc_I s 114 k = nI h.2.1 ∧ gc_I s 115 k = nI h.2.2
def Aq (q : Nat) (q' _k : Nat) : Bool := Nat.beq q' q
theorem Aq_iff {q q' k : Nat} : Aq q q' k = true ↔ q' = q := by
  unfold Aq
  rw [Nat.beq_eq]
def Bh (a : Nat) : Bool := Nat.ble 112 a && Nat.ble a 115
def A49 (q k : Nat) : Bool := Nat.beq q 67 && (Nat.beq k 49 || Nat.beq k 50 || Nat.beq k 51)
theorem io_sl {k : Nat} (hk : k < 3) : gc_io 1 (51 + k) := by
  rcases Nat.lt_or_ge k 1 with e | e
  · rw [show k = 0 by omega]
    exact ⟨by decide, rfl⟩
  · rcases Nat.lt_or_ge k 2 with e2 | e2
    · rw [show k = 1 by omega]
      exact ⟨by decide, rfl⟩
    · rw [show k = 2 by omega]
      exact ⟨by decide, rfl⟩
section So
variable {P : gc_Pr} {d : Nat} {s : gc_St} {Q : gc_TQ} {W : ld_W} {L lv : Nat} {h : Nat × Nat × Nat} {sl : Nat → Option (Nat × Nat × Nat)}
theorem sp_holdC (hP : gc_Cl P) (hm : gc_Mo P) (hd : 1 ≤ d) {c : Int32} (hs : slC sl s) (hh : gc_F s 49 0 = nI h.1 ∧ gc_F s 49 1 = nI h.2.1 ∧ gc_F s 49 2 = nI h.2.2) (h1 : ∀ k t, k < 3 → c = nI k → fr (Aq (51 + k)) B0 s t → slC (supd sl k h) t → Q (some (.int 1)) t) (h2 : (∀ k, k < 3 → c ≠ nI k) → Q (some (.int 0)) s) : gc_T P d 0 0 151 0 [.ref 0, .int c] [] s Q := by
  refine b_X10_hold_0 hP hm ⟨fun z => h2 fun k hk e => (nI_ix (by omega) hk e).1 z, fun z => ⟨fun y => ?_, fun y => h2 fun k hk e => y ?_⟩⟩
  · obtain ⟨k, hk, rfl⟩ := nI_of z
    rw [show (3 : Int32) = nI 3 from rfl, nI_ltI hk (by decide)] at y
    rw [nI_clamp (by omega)]
    refine ⟨vp_in_nI y (by decide), io_sl y, hd, b_X1_copy_0 hP hm (io_sl y) ⟨by decide, rfl⟩ ?_⟩
    have hne : (49 : Nat) ≠ 51 + k := by omega
    rw [F_ne _ _ (Or.inl hne), F_ne _ _ (Or.inl hne), F_ne _ _ (Or.inl hne), hh.1, hh.2.1, hh.2.2]
    refine ⟨vp_in_nI y (by decide), io_sl y, ?_⟩
    have aq : ∀ j, Aq (51 + k) (51 + k) j = true := fun j => Aq_iff.mpr rfl
    have g : fr (Aq (51 + k)) B0 s (gc_wF (gc_wF (gc_wF (gc_wF s (51 + k) 0 (nI h.1)) (51 + k) 1 (nI h.2.1)) (51 + k) 2 (nI h.2.2)) (51 + k) 3 1) := fr_wF (aq 3) (fr_wF (aq 2) (fr_wF (aq 1) (fr_wF (aq 0) (fr_refl s))))
    refine h1 k _ y rfl g fun j hj => ?_
    by_cases e : j = k
    · rw [e]
      refine Or.inr ⟨h, if_pos rfl, ?_, ?_, ?_, ?_⟩
      · rw [F_eq]
        decide
      · rw [F_ne _ _ (Or.inr (by decide)), F_ne _ _ (Or.inr (by decide)), F_ne _ _ (Or.inr (by decide)), F_eq]
      · rw [F_ne _ _ (Or.inr (by decide)), F_ne _ _ (Or.inr (by decide)), F_eq]
      · rw [F_ne _ _ (Or.inr (by decide)), F_eq]
    · have eF : ∀ i, gc_F (gc_wF (gc_wF (gc_wF (gc_wF s (51 + k) 0 (nI h.1)) (51 + k) 1 (nI h.2.1)) (51 + k) 2 (nI h.2.2)) (51 + k) 3 1) (51 + j) i = gc_F s (51 + j) i := fun i => fr_F g (bf fun z => by have := Aq_iff.mp z; omega)
      rw [eF, eF, eF, eF, show supd sl k h j = sl j from if_neg e]
      exact hs j hj
  · rw [e, show (3 : Int32) = nI 3 from rfl, nI_ltI (by omega) (by decide)]
    exact hk
theorem sp_restoreC (hP : gc_Cl P) (hm : gc_Mo P) (hd : 1 ≤ d) {c : Int32} (hs : slC sl s) (h1 : ∀ k h t, k < 3 → c = nI k → sl k = some h → fr (Aq 49) B0 s t → (gc_F t 49 0 = nI h.1 ∧ gc_F t 49 1 = nI h.2.1 ∧ gc_F t 49 2 = nI h.2.2) → Q (some (.int 1)) t) (h2 : (∀ k, k < 3 → c = nI k → sl k = none) → Q (some (.int 0)) s) : gc_T P d 0 0 152 0 [.ref 0, .int c] [] s Q := by
  refine b_X10_restore_0 hP hm ⟨fun z => h2 fun k hk e => absurd z (nI_ix (by omega) hk e).1, fun z => ?_⟩
  obtain ⟨k, hk, rfl⟩ := nI_of z
  refine pk_le 3 k (fun y => h2 fun j hj e => ?_) (fun y => ?_)
  · rw [nI_eq (by omega) (by omega)] at e
    omega
  · rw [nI_clamp (by omega)]
    refine ⟨vp_in_nI y (by decide), io_sl y, ?_⟩
    rcases hs k y with ⟨e1, e2⟩ | ⟨h, e1, e2, e3, e4, e5⟩
    · refine ⟨fun w => absurd e2 w, fun _ => h2 fun j hj e => ?_⟩
      rw [nI_eq (by omega) (by omega)] at e
      rw [← e]
      exact e1
    · refine ⟨fun _ => ⟨vp_in_nI y (by decide), hd, b_X1_copy_0 hP hm ⟨by decide, rfl⟩ (io_sl y) ?_⟩, fun w => absurd w e2⟩
      have hne : 51 + k ≠ 49 := by omega
      rw [F_ne _ _ (Or.inl hne), F_ne _ _ (Or.inl hne), F_ne _ _ (Or.inl hne), e3, e4, e5]
      have aq : ∀ j, Aq 49 49 j = true := fun j => Aq_iff.mpr rfl
      refine h1 k h _ y rfl e1 (fr_wF (aq 2) (fr_wF (aq 1) (fr_wF (aq 0) (fr_refl s)))) ⟨?_, ?_, ?_⟩
      · rw [F_ne _ _ (Or.inr (by decide)), F_ne _ _ (Or.inr (by decide)), F_eq]
      · rw [F_ne _ _ (Or.inr (by decide)), F_eq]
      · rw [F_eq]
theorem sp_mhold (hP : gc_Cl P) (hm : gc_Mo P) (hd : 1 ≤ d) {c : Int32} (hs : slR sl s) (hh : rqh h s) (h1 : ∀ k t, k < 3 → c = nI k → fr A0 Bh s t → slR (supd sl k h) t → Q (some (.int 1)) t) (h2 : (∀ k, k < 3 → c ≠ nI k) → Q (some (.int 0)) s) : gc_T P d 0 0 291 0 [.ref 67, .int c] [] s Q := by
  refine b_X11_hold_0 hP hm ⟨hd, sp_inN hP hm (n := 3) (by decide) (by decide) (fun k hk ek => ⟨fun _ => ?_, fun y => absurd y (by decide)⟩) (fun ek => ⟨fun y => absurd rfl y, fun _ => h2 ek⟩)⟩
  rw [hh.1, hh.2.1, hh.2.2, ek, nI_clamp (by omega), show vp_nar .boolean 1 = 1 from rfl]
  have g : fr A0 Bh s (gc_wI (gc_wI (gc_wI (gc_wI s 112 k 1) 113 k (nI h.1)) 114 k (nI h.2.1)) 115 k (nI h.2.2)) := fr_wI rfl (fr_wI rfl (fr_wI rfl (fr_wI rfl (fr_refl s))))
  refine ⟨vp_in_nI hk (by decide), vp_in_nI hk (by decide), vp_in_nI hk (by decide), vp_in_nI hk (by decide), h1 k _ hk ek g fun j hj => ?_⟩
  by_cases e : j = k
  · rw [e]
    refine Or.inr ⟨h, if_pos rfl, ?_, ?_, ?_, ?_⟩
    · rw [I_ne _ _ (Or.inl (by decide)), I_ne _ _ (Or.inl (by decide)), I_ne _ _ (Or.inl (by decide)), I_eq]
      decide
    · rw [I_ne _ _ (Or.inl (by decide)), I_ne _ _ (Or.inl (by decide)), I_eq]
    · rw [I_ne _ _ (Or.inl (by decide)), I_eq]
    · rw [I_eq]
  · have eI : ∀ a, gc_I (gc_wI (gc_wI (gc_wI (gc_wI s 112 k 1) 113 k (nI h.1)) 114 k (nI h.2.1)) 115 k (nI h.2.2)) a j = gc_I s a j := fun a => by
      rw [I_ne _ _ (Or.inr e), I_ne _ _ (Or.inr e), I_ne _ _ (Or.inr e), I_ne _ _ (Or.inr e)]
    rw [eI, eI, eI, eI, show supd sl k h j = sl j from if_neg e]
    exact hs j hj
theorem sp_mrestore (hP : gc_Cl P) (hm : gc_Mo P) (hd : 1 ≤ d) {c : Int32} (hs : slR sl s) (h1 : ∀ k h t, k < 3 → c = nI k → sl k = some h → fr A49 B0 s t → rqh h t → Q (some (.int 1)) t) (h2 : (∀ k, k < 3 → c = nI k → sl k = none) → Q (some (.int 0)) s) : gc_T P d 0 0 292 0 [.ref 67, .int c] [] s Q := by
  refine b_X11_restore_0 hP hm ⟨hd, sp_inN hP hm (n := 3) (by decide) (by decide) (fun k hk ek => ⟨fun y => absurd y (by decide), fun _ => ?_⟩) (fun ek => ⟨fun _ => h2 fun k hk e => absurd e (ek k hk), fun y => absurd rfl y⟩)⟩
  rw [ek, nI_clamp (by omega)]
  refine ⟨vp_in_nI hk (by decide), ?_⟩
  rcases hs k hk with ⟨e1, e2⟩ | ⟨h, e1, e2, e3, e4, e5⟩
  · refine ⟨fun w => absurd e2 w, fun _ => h2 fun j hj e => ?_⟩
    rw [ek, nI_eq (by omega) (by omega)] at e
    rw [← e]
    exact e1
  · refine ⟨fun _ => ⟨vp_in_nI hk (by decide), vp_in_nI hk (by decide), vp_in_nI hk (by decide), ?_⟩, fun w => absurd w e2⟩
    rw [e3, e4, e5]
    refine h1 k h _ hk ek e1 (fr_wF rfl (fr_wF rfl (fr_wF rfl (fr_refl s)))) ⟨?_, ?_, ?_⟩
    · rw [F_ne _ _ (Or.inr (by decide)), F_ne _ _ (Or.inr (by decide)), F_eq]
    · rw [F_ne _ _ (Or.inr (by decide)), F_eq]
    · rw [F_eq]
end So
