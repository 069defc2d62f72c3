/-! What the block rules use. -/
/-- a cell is an object of a class -/
def gc_io (c q : Nat) : Prop := q < 116 ∧ (gc_kS.getD q (99, 0)).1 = 100 + c
theorem gc_io_b {s : gc_St} {c q : Nat} (h : gc_io c q) : Nat.beq (gc_gk s q).1 (100 + c) = true := by
  rw [gc_gk_lo h.1, h.2]
  exact Nat.beq_refl _
theorem gc_bt_i {b : Bool} {A : Prop} (hb : b = true) (h : A) : gc_bt b A := by
  subst hb
  exact h
theorem gc_mt2 {n : Nat} {A : Prop} (hb : n = 2) (h : A) : gc_q2 n A := by
  subst hb
  exact h
theorem gc_vin {i : Int32} {n m : Nat} (e : n = m) (h : vp_in i m) : vp_in i n := by
  subst e
  exact h
theorem gc_tm {P : gc_Pr} (hm : gc_Mo P) {d kc ks y pc : Nat} {lv st : List Value} {s : gc_St} {Q Q' : gc_TQ} (h : ∀ r s, Q r s → Q' r s) (hT : gc_T P d kc ks y pc lv st s Q) : gc_T P d kc ks y pc lv st s Q' :=
  hm _ _ _ _ _ _ _ _ _ _ (fun r S z => z.elim fun s' hs => ⟨s', hs.1, h r s' hs.2⟩) hT
theorem gc_rv_m {r : Option Value} {A B : Prop} (h : A → B) (hr : gc_rv r A) : gc_rv r B := by
  unfold gc_rv at hr ⊢
  split at hr
  · exact h hr
  · exact hr.elim
theorem gc_ri_m {r : Option Value} {A B : Int32 → Prop} (h : ∀ x, A x → B x) (hr : gc_ri r A) : gc_ri r B := by
  unfold gc_ri at hr ⊢
  split at hr
  · exact h _ hr
  · exact hr.elim
theorem gc_rL_m {r : Option Value} {A B : Int64 → Prop} (h : ∀ x, A x → B x) (hr : gc_rL r A) : gc_rL r B := by
  unfold gc_rL at hr ⊢
  split at hr
  · exact h _ hr
  · exact hr.elim
theorem gc_rA_m {r : Option Value} {A B : Nat → Prop} (h : ∀ x, A x → B x) (hr : gc_rA r A) : gc_rA r B := by
  unfold gc_rA at hr ⊢
  split at hr
  · exact h _ hr
  · exact hr.elim
theorem gc_so_i {o : Option Nat} {A B : Nat → Prop} (h : ∃ a, o = some a ∧ A a) (hk : ∀ a, o = some a → A a → B a) : gc_so o B := by
  obtain ⟨a, e, ha⟩ := h
  subst e
  exact hk a rfl ha
theorem gc_law2 : ∀ q, q < 116 → (gc_kS.getD q (99, 0)).1 = 102 → q = 11 ∨ q = 54 := by decide +kernel
theorem gc_walk2 : ∀ q, q < 116 → (gc_kS.getD q (99, 0)).1 = 109 → q = 36 ∨ q = 40 := by decide +kernel
