/-! Names given, the reference; its later faults. -/
def Bm7 (a : Nat) : Bool := Nat.ble 76 a && Nat.ble a 78
def A21 (q k : Nat) : Bool := Nat.beq q 67 && Nat.beq k 21
/-- the fault kept: the least place, then the least number -/
def wr_v (r : Option (Nat × Nat)) (x p : Nat) : Option (Nat × Nat) := match r with
  | none => some (x, p)
  | some v => if p < v.2 ∨ (p = v.2 ∧ x < v.1) then some (x, p) else some v
def mwr (r : Option (Nat × Nat)) (s : gc_St) : Prop := (r = none ∧ gc_F s 67 16 = 0) ∨ ∃ v, r = some v ∧ 1 ≤ v.1 ∧ v.1 < 2 ^ 31 ∧ v.2 < 2 ^ 31 ∧ gc_F s 67 16 = nI v.1 ∧ gc_F s 67 17 = nI v.2
section Nh
variable {P : gc_Pr} {d : Nat} {s : gc_St} {Q : gc_TQ} {lv : Nat} {nl : List (List Nat × Nat × Nat)} {w : List Nat}
theorem sp_mnotes (hP : gc_Cl P) (hm : gc_Mo P) (hn : nmR nl lv s) (h16 : nl.length < 16) (hF : gc_F s 67 21 = nI (16 * lv + nl.length)) (hw : wok w) {i kd ix : Nat} (hi : i < 403) (hJ : gc_J s 74 i = lN (wnum 27 w)) (hQ : ∀ t, nmR (nl ++ [(w, kd, ix)]) lv t → gc_F t 67 21 = nI (16 * lv + (nl.length + 1)) → fr A21 Bm7 s t → Q none t) : gc_T P d 0 0 195 0 [.ref 67, .int (nI i), .int (nI kd), .int (nI ix)] [] s Q := by
  obtain ⟨h1, h2, h3⟩ := hn
  refine b_X11_notes_0 hP hm ?_
  rw [hF, nI_clamp (by omega), nI_clamp (by omega), hJ, nI_1]
  refine ⟨vp_in_nI hi (by decide), vp_in_nI (by omega) (by decide), vp_in_nI (by omega) (by decide), vp_in_nI (by omega) (by decide), ?_⟩
  refine hQ _ ⟨h1, ?_, fun k e hk => ?_⟩ (F_eq _ _ _ _) (fr_wF rfl (fr_wI rfl (fr_wI rfl (fr_wJ rfl (fr_refl s)))))
  · rw [List.length_append]
    show nl.length + 1 ≤ 16
    omega
  · show wok e.1 ∧ gc_J (gc_wJ s 76 (16 * lv + nl.length) (lN (wnum 27 w))) 76 (16 * lv + k) = lN (wnum 27 e.1) ∧ gc_I (gc_wI (gc_wI (gc_wJ s 76 (16 * lv + nl.length) (lN (wnum 27 w))) 77 (16 * lv + nl.length) (nI kd)) 78 (16 * lv + nl.length) (nI ix)) 77 (16 * lv + k) = nI e.2.1 ∧ gc_I (gc_wI (gc_wI (gc_wJ s 76 (16 * lv + nl.length) (lN (wnum 27 w))) 77 (16 * lv + nl.length) (nI kd)) 78 (16 * lv + nl.length) (nI ix)) 78 (16 * lv + k) = nI e.2.2
    rcases Nat.lt_trichotomy k nl.length with z | z | z
    · rw [List.getElem?_append_left z] at hk
      rw [J_ne _ _ (Or.inr (by omega)), I_ne _ _ (Or.inr (by omega)), I_ne _ _ (Or.inr (by omega)), I_ne _ _ (Or.inr (by omega)), I_ne _ _ (Or.inr (by omega))]
      exact h3 k e hk
    · rw [z, List.getElem?_append_right (Nat.le_refl _), Nat.sub_self] at hk
      have he : (w, kd, ix) = e := by
        simpa using hk
      rw [z, J_eq, I_ne _ _ (Or.inl (by decide)), I_eq, I_eq, ← he]
      exact ⟨hw, rfl, rfl, rfl⟩
    · rw [List.getElem?_eq_none (by rw [List.length_append]; show nl.length + 1 ≤ k; omega)] at hk
      exact absurd hk (by simp)
theorem sp_mwrong (hP : gc_Cl P) (hm : gc_Mo P) {b : Nat → Nat} {n T i j x : Nat} {r : Option (Nat × Nat)} (h : rpw b n T i s) (hj : j < T) (h14 : gc_F s 67 14 = 0) (hr : mwr r s) (hx : 1 ≤ x) (hx2 : x < 2 ^ 31) (hp : tk_st b n j < 2 ^ 31) (hQ : ∀ t, mwr (wr_v r x (tk_st b n j)) t → fr Amw B0 s t → Q none t) : gc_T P d 0 0 186 0 [.ref 67, .int (nI x), .int (nI j), gc_u] [] s Q := by
  have hT := h.1.1
  refine b_X11_wrong_0 hP hm ?_
  rw [h14, nI_clamp (by omega), (h.2.1 j hj).2.1]
  refine ⟨vp_in_nI (by omega) (by decide), fun z => absurd z (by decide), fun _ => ?_⟩
  have put : (wr_v r x (tk_st b n j) = some (x, tk_st b n j)) → Q none (gc_wF (gc_wF s 67 16 (nI x)) 67 17 (nI (tk_st b n j))) := by
    intro e
    refine hQ _ (Or.inr ⟨_, e, hx, hx2, hp, ?_, F_eq _ _ _ _⟩) (fr_wF rfl (fr_wF rfl (fr_refl s)))
    rw [F_ne _ _ (Or.inr (by decide)), F_eq]
  rcases hr with ⟨e, e1⟩ | ⟨v, e, e0, e1, e2, e3, e4⟩
  · rw [e1]
    exact ⟨fun _ => put (by rw [e]; rfl), fun y => absurd rfl y⟩
  · have ev : wr_v r x (tk_st b n j) = if tk_st b n j < v.2 ∨ (tk_st b n j = v.2 ∧ x < v.1) then some (x, tk_st b n j) else some v := by
      rw [e]
      rfl
    have keep : ¬ (tk_st b n j < v.2 ∨ (tk_st b n j = v.2 ∧ x < v.1)) → Q none s := by
      intro hno
      rw [if_neg hno] at ev
      exact hQ s (Or.inr ⟨v, ev, e0, e1, e2, e3, e4⟩) (fr_refl s)
    rw [e3, e4]
    refine ⟨fun y => ?_, fun _ => pk_lt v.2 (tk_st b n j) (fun z => keep (by omega)) (fun z => ?_)⟩
    · rw [show (0 : Int32) = nI 0 from rfl, nI_eq e1 (by decide)] at y
      omega
    · rw [nI_eq hp e2]
      refine ⟨fun z2 => put (by rw [ev, if_pos (by omega)]), fun z2 => pk_lt x v.1 (fun z3 => put (by rw [ev, if_pos (by omega)])) (fun z3 => keep (by omega))⟩
end Nh
