/-! Names: the reference's look-up. -/
def nmR (nl : List (List Nat × Nat × Nat)) (lv : Nat) (s : gc_St) : Prop := lv < 2 ∧ nl.length ≤ 16 ∧ ∀ k e, nl[k]? = some e → wok e.1 ∧ gc_J s 76 (16 * lv + k) = lN (wnum 27 e.1) ∧ gc_I s 77 (16 * lv + k) = nI e.2.1 ∧ gc_I s 78 (16 * lv + k) = nI e.2.2
def fd_v (x : Option (List Nat × Nat × Nat)) : Int32 := match x with
  | none => -1
  | some e => nI e.2.2
section Nn
variable {P : gc_Pr} {d : Nat} {s : gc_St} {Q : gc_TQ} {lv : Nat} {nl : List (List Nat × Nat × Nat)} {w : List Nat}
theorem sp_mfind (hP : gc_Cl P) (hm : gc_Mo P) (hn : nmR nl lv s) (hk8 : ∀ e, e ∈ nl → e.2.1 < 2 ^ 31) (hw : wok w) {i kd : Nat} (hi : i < 403) (hkd : kd < 2 ^ 31) (hJ : gc_J s 74 i = lN (wnum 27 w)) (hQ : Q (some (.int (fd_v (nl.find? (fun e => e.1 == w && Nat.beq e.2.1 kd))))) s) : gc_T P d 0 0 196 0 [.ref 67, .int (nI i), .int (nI kd), .int (nI lv), .int (nI (16 * lv + nl.length)), gc_u] [] s Q := by
  obtain ⟨h1, h2, h3⟩ := hn
  refine b_X11_find_0 hP hm ?_
  rw [st_lit 16, pk_mul]
  have key : ∀ (l : List (List Nat × Nat × Nat)) k, k ≤ nl.length → nl.drop k = l → (Q (some (.int (fd_v (l.find? (fun e => e.1 == w && Nat.beq e.2.1 kd))))) s) → gc_T P d 0 0 196 6 [.ref 67, .int (nI i), .int (nI kd), .int (nI lv), .int (nI (16 * lv + nl.length)), .int (nI (16 * lv + k))] [] s Q := by
    intro l
    induction l with
    | nil =>
      intro k hkl hk hQ
      have hle : nl.length ≤ k := List.drop_eq_nil_iff.mp hk
      exact b_X11_find_6 hP hm (pk_le (16 * lv + nl.length) (16 * lv + k) (fun _ => hQ) (fun z => by omega))
    | cons e l ih =>
      intro k hkl hk hQ
      have hk0 : nl[k]? = some e := by
        have := congrArg (fun x => x[0]?) hk
        simpa [List.getElem?_drop] using this
      have hk1 : nl.drop (k + 1) = l := by
        have : (nl.drop k).drop 1 = l := by rw [hk]; rfl
        rw [List.drop_drop] at this
        exact this
      have hlt : k < nl.length := (List.getElem?_eq_some_iff.mp hk0).1
      have hke := hk8 e (List.mem_of_getElem? hk0)
      obtain ⟨e1, e2, e3, e4⟩ := h3 k e hk0
      have next : (e.1 == w && Nat.beq e.2.1 kd) = false → gc_T P d 0 0 196 49 [.ref 67, .int (nI i), .int (nI kd), .int (nI lv), .int (nI (16 * lv + nl.length)), .int (nI (16 * lv + k))] [] s Q := by
        intro hf
        refine b_X11_find_49 hP hm ?_
        rw [nI_1, show 16 * lv + k + 1 = 16 * lv + (k + 1) by omega]
        refine ih (k + 1) (by omega) hk1 ?_
        rw [List.find?_cons_of_neg (by rw [hf]; decide)] at hQ
        exact hQ
      refine b_X11_find_6 hP hm ?_
      rw [nI_clamp (by omega), nI_clamp (by omega), e2, e3, e4, hJ, lg_cmp0, lN_eq40 (wnum_lt (by decide) (by decide) e1) (wnum_lt (by decide) (by decide) hw), wnum_inj (by decide) e1 hw, nI_eq hke hkd]
      refine pk_le (16 * lv + nl.length) (16 * lv + k) (fun z => by omega) (fun _ => ⟨vp_in_nI (by omega) (by decide), vp_in_nI (by omega) (by decide), fun z => next ?_, fun z => ⟨vp_in_nI (by omega) (by decide), fun z2 => next ?_, fun z2 => ⟨vp_in_nI (by omega) (by decide), ?_⟩⟩⟩)
      · rw [show (e.1 == w) = false by simpa using z, Bool.false_and]
      · rw [show Nat.beq e.2.1 kd = false from bf fun y => z2 (Nat.beq_eq ▸ y), Bool.and_false]
      · rw [List.find?_cons_of_pos (by rw [z, z2]; simp)] at hQ
        exact hQ
  exact key nl 0 (Nat.zero_le _) rfl hQ
end Nn
