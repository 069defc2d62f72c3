theorem gc_chain_tl {a : gc_El} {l : List gc_El} (h : gc_chain (a :: l) = true) : gc_chain l = true := by
  cases l with
  | nil => rfl
  | cons b r =>
    unfold gc_chain at h
    simp only [Bool.and_eq_true] at h
    exact h.2
theorem gc_chain_hd {a b : gc_El} {l : List gc_El} (h : gc_chain (a :: b :: l) = true) : a.2.1 = b.1 := by
  unfold gc_chain at h
  simp only [Bool.and_eq_true, decide_eq_true_eq] at h
  exact h.1
theorem gc_chain_dw {f : gc_El → Bool} : ∀ {l : List gc_El}, gc_chain l = true → gc_chain (l.dropWhile f) = true
  | [], _ => rfl
  | a :: l, h => by
    rw [List.dropWhile_cons]
    split
    · exact gc_chain_dw (gc_chain_tl h)
    · exact h
theorem gc_chain_pre : ∀ {es l : List gc_El}, es <+: l → gc_chain l = true → gc_chain es = true
  | [], _, _, _ => rfl
  | [a], _, _, _ => rfl
  | a :: b :: es, l, hp, h => by
    obtain ⟨t, rfl⟩ := hp
    have h1 := gc_chain_hd (l := es ++ t) h
    have h2 := gc_chain_pre (es := b :: es) ⟨t, rfl⟩ (gc_chain_tl h)
    unfold gc_chain
    simp only [Bool.and_eq_true, decide_eq_true_eq]
    exact ⟨h1, h2⟩
section GcS
variable {p : Program} {l : Launch} {e : Env} {s : State} {m : MethodId} {args : Array Value} {below : List Frame} {meth : Method} {c : Code} {D : va_G} {cy : Nat → ClassId} {B d y : Nat} {Mc Ms : Nat} {Q : gc_Q}
theorem gc_blks (hP : gc_okP) (Cx : gc_Cx D cy B p s m args meth c y) : ∀ (es : List gc_El) (pc : Nat), (∀ el ∈ es, gc_okE y el = true) → gc_chain es = true → (∀ el r, es = el :: r → el.1 = pc) →
    ∀ (kc ks : Nat) (lv st : List Value) (S : gc_H) (H : Heap) (locs : List Loc) (cells slots : Nat) (ls : Array Slot), gc_At D cy B y Mc Ms s H locs cells slots ls kc ks lv S → gc_blk (gc_P0 l D cy B) gc_mL gc_mC gc_dfl d y Q es pc kc ks lv st S →
    W p l e (gc_rm d Mc Ms) s m args below meth c H locs cells slots (MQ below (gc_QQ D cy B Mc Q) args s Mc Ms (gc_A B)) (F0 m pc ls (st.map (gc_tr B)))
  | [], pc, _, _, _, kc, ks, lv, st, S, H, locs, cells, slots, ls, hA, h => gc_P0.at Cx hA h
  | el :: es, pc, ho, hc, hh, kc, ks, lv, st, S, H, locs, cells, slots, ls, hA, h => by
    have e1 := hh el es rfl
    subst e1
    refine gc_exs hP Cx el (ho el List.mem_cons_self) ?_ hA h
    intro kc ks lv st S H locs cells slots ls w1 w2 w3 w4 w5 w6 hk
    refine gc_blks hP Cx es el.2.1 (fun x hx => ho x (List.mem_cons_of_mem _ hx)) (gc_chain_tl hc) ?_ kc ks lv st S H locs cells slots ls ⟨w1, w2, w3, w4, w5, w6⟩ hk
    intro b r hb
    subst hb
    exact (gc_chain_hd hc).symm
end GcS
/-- the great machine is closed under the program's blocks -/
theorem gc_sound (hP : gc_okP) (l : Launch) (D : va_G) (cy : Nat → ClassId) (B : Nat) : gc_Cl (gc_P0 l D cy B) := by
  intro d kc ks y pc lv st S Q es hy hp hne h p e s m args below meth c H locs cells slots ls Mc Ms Cx hWo hS hl hz h1 h2
  obtain ⟨ho, hc, hM⟩ := hP.1 y hy
  refine gc_blks hP Cx es pc ?_ (gc_chain_pre hp (gc_chain_dw hc)) ?_ kc ks lv st S H locs cells slots ls ⟨hWo, hS, hl, hz, h1, h2⟩ h
  · intro el hel
    obtain ⟨t, ht⟩ := hp
    exact ho el (List.dropWhile_subset _ (by rw [← ht]; exact List.mem_append_left _ hel))
  · intro el r he
    obtain ⟨t, ht⟩ := hp
    subst he
    have h3 : ((gc_cd y).dropWhile (fun e => e.1 != pc)).head? = some el := by rw [← ht]; rfl
    have h4 := List.head?_dropWhile_not (fun e : gc_El => e.1 != pc) (gc_cd y)
    rw [h3] at h4
    simpa using h4
/-- what must hold at the end may be less -/
theorem gc_P0_mono {l : Launch} {D : va_G} {cy : Nat → ClassId} {B d kc ks y pc : Nat} {lv st : List Value} {S : gc_H} {Q Q' : gc_Q} (hq : ∀ r S, Q r S → Q' r S) (h : gc_P0 l D cy B d kc ks y pc lv st S Q) : gc_P0 l D cy B d kc ks y pc lv st S Q' := by
  intro p e s m args below meth c H locs cells slots ls Mc Ms Cx hWo hS hl hz h1 h2 T hT X
  obtain ⟨t, a1, o, b1, b2, ⟨r, S', c1, c2, c3, c4, c5⟩, b4⟩ := h p e s m args below meth c H locs cells slots ls Mc Ms Cx hWo hS hl hz h1 h2 T hT X
  exact ⟨t, a1, o, b1, b2, ⟨r, S', c1, hq r S' c2, c3, c4, c5⟩, b4⟩
