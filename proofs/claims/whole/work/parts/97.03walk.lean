/-! A piece of a method that is walked by hand: the evaluator over the great machine. -/
def ev_p (f d : Nat) : List gc_El → List Value → List Value → List ev_C → ev_O
  | [], lv, st, L => some (0, 0, lv, st, L)
  | (_, _, ins, r1, r2, cn) :: es, lv, st, L => match ev_x (ev_cb f) d ins r1 r2 cn lv st L with
    | some (c, s, lv', st', L') => (match ev_p f d es lv' st' L' with
      | some (c2, s2, lv2, st2, L2) => some (c + c2, s + s2, lv2, st2, L2)
      | none => none)
    | none => none
def ev_end (pc : Nat) : List gc_El → Nat
  | [] => pc
  | el :: es => ev_end el.2.1 es
theorem ev_cb_ok {P : gc_Pr} (hP : gc_Cl P) (f : Nat) : ev_ok P (ev_cb f) := by
  intro d y lv L c s r L' h ks Q hs hQ
  unfold ev_cb at h
  by_cases z : y < 298
  · rw [if_pos z] at h
    exact ev_run hP z h hs hQ
  · rw [if_neg z] at h
    exact absurd h (by simp)
section Wk
variable {p : Program} {l : Launch} {e : Env} {s : State} {m : MethodId} {args : Array Value} {below : List Frame} {meth : Method} {c : Code} {D : va_G} {cy : Nat → ClassId} {B d y : Nat} {Mc Ms : Nat} {Q : gc_Q}
theorem ev_W (hP : gc_okP) (Cx : gc_Cx D cy B p s m args meth c y) (f : Nat) : ∀ (es : List gc_El) (pc : Nat), (∀ el ∈ es, gc_okE y el = true) → gc_chain es = true → (∀ el r, es = el :: r → el.1 = pc) →
    ∀ (lv st lv' st' : List Value) (L L' : List ev_C) (c1 s1 kc ks : Nat) (H : Heap) (locs : List Loc) (cells slots : Nat) (ls : Array Slot), ev_p f d es lv st L = some (c1, s1, lv', st', L') → s1 ≤ ks → gc_At D cy B y Mc Ms s H locs cells slots ls (c1 + kc) ks lv (ev_H L) →
    (∀ (H : Heap) (locs : List Loc) (cells slots : Nat) (ls : Array Slot), gc_At D cy B y Mc Ms s H locs cells slots ls kc (ks - s1) lv' (ev_H L') → W p l e (gc_rm d Mc Ms) s m args below meth c H locs cells slots (MQ below (gc_QQ D cy B Mc Q) args s Mc Ms (gc_A B)) (F0 m (ev_end pc es) ls (st'.map (gc_tr B)))) →
    W p l e (gc_rm d Mc Ms) s m args below meth c H locs cells slots (MQ below (gc_QQ D cy B Mc Q) args s Mc Ms (gc_A B)) (F0 m pc ls (st.map (gc_tr B)))
  | [], pc, _, _, _, lv, st, lv', st', L, L', c1, s1, kc, ks, H, locs, cells, slots, ls, h, hs, hA, kk => by
    unfold ev_p at h
    simp only [Option.some.injEq, Prod.mk.injEq] at h
    obtain ⟨rfl, rfl, rfl, rfl, rfl⟩ := h
    rw [Nat.zero_add] at hA
    exact kk H locs cells slots ls hA
  | el :: es, pc, ho, hc, hh, lv, st, lv', st', L, L', c1, s1, kc, ks, H, locs, cells, slots, ls, h, hs, hA, kk => by
    have e1 := hh el es rfl
    subst e1
    obtain ⟨pc0, nx, ins, r1, r2, cn⟩ := el
    unfold ev_p at h
    split at h
    · rename_i ca sa lva sta La hx
      split at h
      · rename_i cb' sb lvb stb Lb hb
        simp only [Option.some.injEq, Prod.mk.injEq] at h
        obtain ⟨rfl, rfl, rfl, rfl, rfl⟩ := h
        rw [Nat.add_assoc] at hA
        refine gc_exs (K := fun k1 k2 a1 a2 S1 => k1 = cb' + kc ∧ k2 = ks - sa ∧ a1 = lva ∧ a2 = sta ∧ S1 = ev_H La) hP Cx (pc0, nx, ins, r1, r2, cn) (ho _ List.mem_cons_self) ?_ hA (ev_x_s (ev_cb_ok (gc_sound hP l D cy B) f) hx (by omega) ⟨rfl, rfl, rfl, rfl, rfl⟩)
        intro k1 k2 a1 a2 S1 H1 locs1 cells1 slots1 ls1 w1 w2 w3 w4 w5 w6 hk
        obtain ⟨rfl, rfl, rfl, rfl, rfl⟩ := hk
        refine ev_W hP Cx f es nx (fun x hx => ho x (List.mem_cons_of_mem _ hx)) (gc_chain_tl hc) ?_ _ _ _ _ _ _ _ _ _ _ H1 locs1 cells1 slots1 ls1 hb (by omega) ⟨w1, w2, w3, w4, w5, w6⟩ ?_
        · intro b r hb
          subst hb
          exact (gc_chain_hd hc).symm
        · intro H2 locs2 cells2 slots2 ls2 hA2
          refine kk H2 locs2 cells2 slots2 ls2 ?_
          rw [show ks - (sa + sb) = ks - sa - sb by omega]
          exact hA2
      · exact absurd h (by simp)
    · exact absurd h (by simp)
end Wk
