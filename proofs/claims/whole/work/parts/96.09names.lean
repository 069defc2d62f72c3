/-! Names: rows of letters, the numbers of both sides. -/
def wok (w : List Nat) : Prop := w.length ≤ 8 ∧ ∀ t, t < w.length → 97 ≤ w.getD t 0 ∧ w.getD t 0 ≤ 122
def wnum (B : Nat) (w : List Nat) : Nat := tk_nm B (fun j => w.getD j 0) 0 w.length
def wrd (b : Nat → Nat) (i k : Nat) : List Nat := (List.range k).map (fun t => b (i + t))
theorem wrd_len (b : Nat → Nat) (i k : Nat) : (wrd b i k).length = k := by
  unfold wrd
  rw [List.length_map, List.length_range]
theorem wrd_at {b : Nat → Nat} {i k t : Nat} (ht : t < k) : (wrd b i k).getD t 0 = b (i + t) := by
  unfold wrd
  rw [List.getD_eq_getElem?_getD, List.getElem?_map, List.getElem?_range ht]
  rfl
theorem wn_congr {B : Nat} {b c : Nat → Nat} {i j : Nat} : ∀ k, (∀ t, t < k → b (i + t) = c (j + t)) → tk_nm B b i k = tk_nm B c j k
  | 0, _ => rfl
  | k + 1, h => by
    show B * tk_nm B b i k + (b (i + k) - 96) = B * tk_nm B c j k + (c (j + k) - 96)
    rw [wn_congr k (fun t ht => h t (by omega)), h k (by omega)]
theorem wnum_wrd (B : Nat) (b : Nat → Nat) (i k : Nat) : wnum B (wrd b i k) = tk_nm B b i k := by
  unfold wnum
  rw [wrd_len]
  refine wn_congr k fun t ht => ?_
  rw [Nat.zero_add]
  exact wrd_at ht
theorem wnum_inj {B : Nat} (hB : 27 ≤ B) {w w' : List Nat} (h : wok w) (g : wok w') : wnum B w = wnum B w' ↔ w = w' := by
  constructor
  · intro e
    obtain ⟨e1, e2⟩ := tk_nm_inj hB w.length w'.length (fun t ht => by rw [Nat.zero_add]; exact h.2 t ht) (fun t ht => by rw [Nat.zero_add]; exact g.2 t ht) e
    refine List.ext_getElem e1 fun t h1 h2 => ?_
    have := e2 t h1
    rw [Nat.zero_add] at this
    rw [List.getD_eq_getElem?_getD, List.getD_eq_getElem?_getD, List.getElem?_eq_getElem h1, List.getElem?_eq_getElem h2] at this
    exact this
  · intro e
    rw [e]
theorem wnum_lt {B : Nat} (hB : 27 ≤ B) (h32 : B ≤ 32) {w : List Nat} (h : wok w) : wnum B w < 2 ^ 40 := by
  have h1 := tk_nm_lt hB (b := fun j => w.getD j 0) (i := 0) w.length (fun t ht => by rw [Nat.zero_add]; exact h.2 t ht)
  refine Nat.lt_of_lt_of_le h1 (Nat.le_trans (Nat.pow_le_pow_left h32 _) (Nat.le_trans (Nat.pow_le_pow_right (by decide) h.1) (by decide)))
theorem lN_eq40 {a b : Nat} (ha : a < 2 ^ 40) (hb : b < 2 ^ 40) : lN a = lN b ↔ a = b := by
  constructor
  · intro e
    have e1 : (lN a).toInt = (lN b).toInt := by rw [e]
    rw [show (lN a).toInt = (a : Int) from lg_ofNat_toInt (by omega), show (lN b).toInt = (b : Int) from lg_ofNat_toInt (by omega)] at e1
    omega
  · intro e
    rw [e]
/-- the names given: the word, the kind, the place -/
def nmC (nl : List (List Nat × Nat × Nat)) (L : Nat) (s : gc_St) : Prop := gc_F s L 6 = nI nl.length ∧ nl.length ≤ 16 ∧ ∀ k e, nl[k]? = some e → wok e.1 ∧ gc_J s (gc_rS L 17) k = lN (wnum 32 e.1) ∧ gc_I s (gc_rS L 18) k = nI (8 * e.2.1 + e.2.2)
def rl_v (x : Option (List Nat × Nat × Nat)) : Int32 := match x with
  | none => -1
  | some e => nI (8 * e.2.1 + e.2.2)
section Nm
variable {P : gc_Pr} {d : Nat} {s : gc_St} {Q : gc_TQ} {L : Nat} {nl : List (List Nat × Nat × Nat)} {w : List Nat}
theorem sp_roleOf (hP : gc_Cl P) (hm : gc_Mo P) (hL : cl_L L) (hn : nmC nl L s) (hw : wok w) (hQ : Q (some (.int (rl_v (nl.find? (fun e => e.1 == w))))) s) : gc_T P d 0 0 27 0 [.ref L, .long (lN (wnum 32 w)), gc_u, gc_u] [] s Q := by
  obtain ⟨h1, h2, h3⟩ := hn
  refine b_X2_roleOf_0 hP hm (cl_io hL) ?_
  have key : ∀ (l : List (List Nat × Nat × Nat)) k, k ≤ nl.length → nl.drop k = l → (Q (some (.int (rl_v (l.find? (fun e => e.1 == w))))) s) → gc_T P d 0 0 27 2 [.ref L, .long (lN (wnum 32 w)), gc_u, .int (nI k)] [] s Q := by
    intro l
    induction l with
    | nil =>
      intro k hkl hk hQ
      have hle : nl.length ≤ k := List.drop_eq_nil_iff.mp hk
      refine b_X2_roleOf_2 hP hm (cl_io hL) ?_
      rw [h1]
      exact pk_le nl.length k (fun _ => hQ) (fun z => by omega)
    | cons e l ih =>
      intro k hkl hk hQ
      have hk0 : nl[k]? = some e := by
        have := congrArg (fun x => x[0]?) hk
        simpa [List.getElem?_drop] using this
      have hk1 : nl.drop (k + 1) = l := by
        have : (nl.drop k).drop 1 = l := by rw [hk]; rfl
        rw [List.drop_drop] at this
        exact this
      have hlt : k < nl.length := (List.getElem?_eq_some_iff.mp hk0).1
      obtain ⟨e1, e2, e3⟩ := h3 k e hk0
      refine b_X2_roleOf_2 hP hm (cl_io hL) ?_
      rw [h1, nI_clamp (by omega), e2, e3, lg_cmp0, lN_eq40 (wnum_lt (by decide) (by decide) e1) (wnum_lt (by decide) (by decide) hw), wnum_inj (by decide) e1 hw]
      refine pk_le nl.length k (fun z => by omega) (fun _ => ⟨vp_in_nI (by omega) (by decide), fun z => ?_, fun z => ⟨vp_in_nI (by omega) (by decide), ?_⟩⟩)
      · rw [nI_1]
        refine ih (k + 1) (by omega) hk1 ?_
        rw [List.find?_cons_of_neg (by simpa using z)] at hQ
        exact hQ
      · rw [List.find?_cons_of_pos (by simpa using z)] at hQ
        exact hQ
  exact key nl 0 (Nat.zero_le _) rfl hQ
end Nm
