/-! Each instruction of the small machine is one of the great one. -/
theorem gc_1i_of {st : List Value} {k : Int32 → List Value → Prop} (h : gc_1i st k) : ∃ x r, st = .int x :: r ∧ k x r := by
  unfold gc_1i at h
  split at h
  · exact ⟨_, _, rfl, h⟩
  · exact h.elim
theorem gc_2i_of {st : List Value} {k : Int32 → Int32 → List Value → Prop} (h : gc_2i st k) : ∃ x y r, st = .int y :: .int x :: r ∧ k x y r := by
  unfold gc_2i at h
  split at h
  · exact ⟨_, _, _, rfl, h⟩
  · exact h.elim
theorem gc_1l_of {st : List Value} {k : Int64 → List Value → Prop} (h : gc_1l st k) : ∃ x r, st = .long x :: r ∧ k x r := by
  unfold gc_1l at h
  split at h
  · exact ⟨_, _, rfl, h⟩
  · exact h.elim
theorem gc_2l_of {st : List Value} {k : Int64 → Int64 → List Value → Prop} (h : gc_2l st k) : ∃ x y r, st = .long y :: .long x :: r ∧ k x y r := by
  unfold gc_2l at h
  split at h
  · exact ⟨_, _, _, rfl, h⟩
  · exact h.elim
theorem gc_1r_of {st : List Value} {k : Nat → List Value → Prop} (h : gc_1r st k) : ∃ x r, st = .ref x :: r ∧ k x r := by
  unfold gc_1r at h
  split at h
  · exact ⟨_, _, rfl, h⟩
  · exact h.elim
theorem gc_ir_of {st : List Value} {k : Nat → Int32 → List Value → Prop} (h : gc_ir st k) : ∃ a i r, st = .int i :: .ref a :: r ∧ k a i r := by
  unfold gc_ir at h
  split at h
  · exact ⟨_, _, _, rfl, h⟩
  · exact h.elim
theorem gc_vir_of {st : List Value} {k : Nat → Int32 → Value → List Value → Prop} (h : gc_vir st k) : ∃ a i v r, st = v :: .int i :: .ref a :: r ∧ k a i v r := by
  unfold gc_vir at h
  split at h
  · exact ⟨_, _, _, _, rfl, h⟩
  · exact h.elim
theorem gc_vr_of {st : List Value} {k : Nat → Value → List Value → Prop} (h : gc_vr st k) : ∃ a v r, st = v :: .ref a :: r ∧ k a v r := by
  unfold gc_vr at h
  split at h
  · exact ⟨_, _, _, rfl, h⟩
  · exact h.elim
theorem gc_1a_of {st : List Value} {kr : Nat → List Value → Prop} {kn : List Value → Prop} (h : gc_1a st kr kn) : (∃ a r, st = .ref a :: r ∧ kr a r) ∨ ∃ r, st = .null :: r ∧ kn r := by
  unfold gc_1a at h
  split at h
  · exact Or.inl ⟨_, _, rfl, h⟩
  · exact Or.inr ⟨_, rfl, h⟩
  · exact h.elim
theorem gc_lI_of {lv : List Value} {n : Nat} {k : Int32 → Prop} (h : gc_lI lv n k) : ∃ x, lv[n]? = some (.int x) ∧ k x := by
  unfold gc_lI at h
  split at h
  · exact ⟨_, by assumption, h⟩
  · exact h.elim
theorem gc_lL_of {lv : List Value} {n : Nat} {k : Int64 → Prop} (h : gc_lL lv n k) : ∃ x, lv[n]? = some (.long x) ∧ k x := by
  unfold gc_lL at h
  split at h
  · exact ⟨_, by assumption, h⟩
  · exact h.elim
theorem gc_lA_of {lv : List Value} {n : Nat} {k : Value → Prop} (h : gc_lA lv n k) : (∃ a, lv[n]? = some (.ref a) ∧ k (.ref a)) ∨ (lv[n]? = some .null ∧ k .null) := by
  unfold gc_lA at h
  split at h
  · exact Or.inl ⟨_, by assumption, h⟩
  · exact Or.inr ⟨by assumption, h⟩
  · exact h.elim
theorem gc_tsw_of {x : Int} {k : Int → Prop} : ∀ (offs : List Int) (lo : Int), gc_tsw x lo offs k → ∀ (i : Nat) (o : Int), offs[i]? = some o → x = lo + i → k o
  | [], _, _, i, o, h, _ => by cases h
  | a :: os, lo, h, 0, o, ho, hx => by
    cases ho
    exact h.1 (by rw [hx]; simp)
  | a :: os, lo, h, i + 1, o, ho, hx => gc_tsw_of os (lo + 1) h.2 i o ho (by rw [hx]; simp; omega)
section GcX
variable {p : Program} {l : Launch} {e : Env} {R : Room} {s : State} {m : MethodId} {args : Array Value} {below : List Frame} {meth : Method} {c : Code} {H : Heap} {locs : List Loc} {cells slots : Nat} {Q : State → Prop} {g : JFrame}
theorem gc_sz (k : H.size ≤ s.heap.size + cells → W p l e R s m args below meth c H locs cells slots Q g) : W p l e R s m args below meth c H locs cells slots Q g := fun T hT X => k (by rw [← hT]; exact X.heapSize) T hT X
end GcX
theorem gc_Wo_mk {D : va_G} {cy : Nat → ClassId} {B : Nat} {S : gc_H} {H : Heap} (hP : va_P D vwCl (gc_wl B cy S) H) (h : H.size ≤ B + S.1) (h0 : B ≤ H.size) : gc_Wo D cy B S H := by
  refine ⟨?_, hP⟩
  cases hn : S.1 with
  | zero => omega
  | succ n =>
    have := (hP n _ (gc_wl_get (by omega))).lt
    have h2 : B + n < H.size := this
    omega
theorem gc_tr_null {B : Nat} : gc_tr B .null = .null := rfl
