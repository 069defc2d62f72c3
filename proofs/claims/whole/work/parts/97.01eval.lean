/-! The constructors by an evaluator: cells with what was stored in them, newest first. -/
abbrev ev_C : Type := (Nat × Nat × List (Nat × Value)) ⊕ (Nat × List Value)
abbrev ev_T : Type := (Nat → Int32) ⊕ (Nat → Int64) ⊕ (Nat → UInt32) ⊕ (Nat → UInt64) ⊕ (Nat → Option Nat)
def ev_st (c : ev_T) (i : Nat) (v : Value) : ev_T := match c, v with
  | .inr (.inl f), .long x => .inr (.inl (vp_updL f i x))
  | .inr (.inr (.inr (.inr f))), .ref b => .inr (.inr (.inr (.inr (va_up f i (some b)))))
  | c, _ => c
def ev_A (t : Nat) : List (Nat × Value) → ev_T
  | [] => gc_zero t
  | (i, v) :: us => ev_st (ev_A t us) i v
def ev_E (c : ev_C) : gc_E := match c with
  | .inl (t, n, us) => .inl (t, n, ev_A t us)
  | .inr o => .inr o
def ev_H (L : List ev_C) : gc_H := (L.length, fun q => match L[q]? with
  | some c => ev_E c
  | none => .inl (0, 0, .inl (fun _ => 0)))
theorem ev_H_at {L : List ev_C} {a : Nat} {c : ev_C} (h : L[a]? = some c) : a < (ev_H L).1 ∧ (ev_H L).2 a = ev_E c := by
  refine ⟨(List.getElem?_eq_some_iff.mp h).1, ?_⟩
  show (match L[a]? with
  | some c => ev_E c
  | none => _) = _
  rw [h]
theorem ev_H_set {L : List ev_C} {a : Nat} {c : ev_C} {e : gc_E} (h : a < L.length) (he : e = ev_E c) : gc_up (ev_H L) a e = ev_H (L.set a c) := by
  unfold gc_up ev_H
  rw [List.length_set]
  refine congrArg _ (funext fun q => ?_)
  by_cases hq : q = a
  · rw [if_pos hq, hq, List.getElem?_set_self h, he]
  · rw [if_neg hq, List.getElem?_set_ne (Ne.symm hq)]
theorem ev_H_new {L : List ev_C} {c : ev_C} {e : gc_E} (he : e = ev_E c) : gc_nw (ev_H L) e = ev_H (L ++ [c]) := by
  unfold gc_nw ev_H
  rw [List.length_append]
  refine congrArg _ (funext fun q => ?_)
  show (if q = L.length then e else _) = _
  by_cases hq : q = L.length
  · rw [if_pos hq, hq, List.getElem?_append_right (Nat.le_refl _), Nat.sub_self, he]
    rfl
  · rw [if_neg hq]
    dsimp only
    rcases Nat.lt_or_ge q L.length with h | h
    · rw [List.getElem?_append_left h]
    · rw [List.getElem?_eq_none h, List.getElem?_eq_none (by rw [List.length_append]; show L.length + 1 ≤ q; omega)]
abbrev ev_R : Type := Option (Nat × Nat × Option Value × List ev_C)
abbrev ev_B : Type := Nat → Nat → List Value → List ev_C → ev_R
abbrev ev_O : Type := Option (Nat × Nat × List Value × List Value × List ev_C)
def ev_call (cb : ev_B) (d r1 nA : Nat) (lv st : List Value) (L : List ev_C) : ev_O :=
  if 1 ≤ d ∧ nA ≤ st.length ∧ (st.drop nA).length ≤ 4 ∧ (gc_ent (st.take nA).reverse).length ≤ gc_mL r1 then
    match cb (d - 1) r1 (gc_pad (gc_mL r1) (gc_ent (st.take nA).reverse)) L with
    | some (c, s, r, L') => some (c, s, lv, r.toList ++ st.drop nA, L')
    | none => none
  else none
def ev_x (cb : ev_B) (d : Nat) (ins : Instr) (r1 r2 : Nat) (cn : Int32) (lv st : List Value) (L : List ev_C) : ev_O := match ins with
  | .aload_n n => (match lv[n.val]? with
    | some (.ref a) => some (0, 0, lv, .ref a :: st, L)
    | _ => none)
  | .iload_n n => (match lv[n.val]? with
    | some (.int a) => some (0, 0, lv, .int a :: st, L)
    | _ => none)
  | .iload n => (match lv[n]? with
    | some (.int a) => some (0, 0, lv, .int a :: st, L)
    | _ => none)
  | .lload_n n => (match lv[n.val]? with
    | some (.long a) => some (0, 0, lv, .long a :: st, L)
    | _ => none)
  | .istore_n n => (match st with
    | .int x :: r => some (0, 0, gc_s1 lv n.val (.int x), r, L)
    | _ => none)
  | .iinc n _ => (match lv[n]? with
    | some (.int x) => some (0, 0, gc_s1 lv n (.int (x + cn)), st, L)
    | _ => none)
  | .iconst _ => some (0, 0, lv, .int cn :: st, L)
  | .bipush _ => some (0, 0, lv, .int cn :: st, L)
  | .sipush _ => some (0, 0, lv, .int cn :: st, L)
  | .ldc _ => some (0, 0, lv, .int cn :: st, L)
  | .lconst n => some (0, 0, lv, .long (Int64.ofNat n.val) :: st, L)
  | .ldc2_w _ => some (0, 0, lv, .long (Int64.ofNat r1) :: st, L)
  | .iadd => (match st with
    | .int y :: .int x :: r => some (0, 0, lv, .int (x + y) :: r, L)
    | _ => none)
  | .isub => (match st with
    | .int y :: .int x :: r => some (0, 0, lv, .int (x - y) :: r, L)
    | _ => none)
  | .lmul => (match st with
    | .long y :: .long x :: r => some (0, 0, lv, .long (x * y) :: r, L)
    | _ => none)
  | .ladd => (match st with
    | .long y :: .long x :: r => some (0, 0, lv, .long (x + y) :: r, L)
    | _ => none)
  | .i2l => (match st with
    | .int x :: r => some (0, 0, lv, .long x.toInt64 :: r, L)
    | _ => none)
  | .dup => (match st with
    | .ref x :: r => some (0, 0, lv, .ref x :: .ref x :: r, L)
    | _ => none)
  | .getfield _ => (match st with
    | .ref a :: r => (match L[a]? with
      | some (.inr (ci, fs)) => (match fs[r2 / 4]? with
        | some (.ref x) => if ci = r1 ∧ r2 % 4 = 2 then some (0, 0, lv, .ref x :: r, L) else none
        | _ => none)
      | _ => none)
    | _ => none)
  | .putfield _ => (match st with
    | .ref x :: .ref a :: r => (match L[a]? with
      | some (.inr (ci, fs)) => if ci = r1 ∧ r2 % 4 = 2 ∧ r2 / 4 < fs.length then some (0, 0, lv, r, L.set a (.inr (ci, fs.set (r2 / 4) (.ref x)))) else none
      | _ => none)
    | .int x :: .ref a :: r => (match L[a]? with
      | some (.inr (ci, fs)) => if ci = r1 ∧ r2 % 4 = 0 ∧ r2 / 4 < fs.length then some (0, 0, lv, r, L.set a (.inr (ci, fs.set (r2 / 4) (.int x)))) else none
      | _ => none)
    | _ => none)
  | .new _ => some (1, (gc_dfl r1).length, lv, .ref L.length :: st, L ++ [.inr (r1, gc_dfl r1)])
  | .newarray _ => (match st with
    | .int n :: r => if ¬ n < 0 ∧ n.toNatClampNeg ≤ 1000000 then some (1, n.toNatClampNeg, lv, .ref L.length :: r, L ++ [.inl (r1, n.toNatClampNeg, [])]) else none
    | _ => none)
  | .anewarray _ => (match st with
    | .int n :: r => if ¬ n < 0 ∧ n.toNatClampNeg ≤ 1000000 then some (1, n.toNatClampNeg, lv, .ref L.length :: r, L ++ [.inl (r1, n.toNatClampNeg, [])]) else none
    | _ => none)
  | .lastore => (match st with
    | .long x :: .int i :: .ref a :: r => (match L[a]? with
      | some (.inl (t, n, us)) => if t = 2 ∧ ¬ (i < 0 ∨ n ≤ i.toNatClampNeg) then some (0, 0, lv, r, L.set a (.inl (t, n, (i.toNatClampNeg, .long x) :: us))) else none
      | _ => none)
    | _ => none)
  | .aastore => (match st with
    | .ref b :: .int i :: .ref a :: r => (match L[a]? with
      | some (.inl (t, n, us)) => (match L[b]? with
        | some (.inr (ci, _)) => if t = 5 ∧ ci = 1 ∧ ¬ (i < 0 ∨ n ≤ i.toNatClampNeg) then some (0, 0, lv, r, L.set a (.inl (t, n, (i.toNatClampNeg, .ref b) :: us))) else none
        | _ => none)
      | _ => none)
    | _ => none)
  | .invokespecial _ => if r1 = 999 then (match st with
      | .ref _ :: r => if 1 ≤ d ∧ r.length ≤ 4 then some (0, 0, lv, r, L) else none
      | _ => none)
    else (match st[r2 - 1]? with
      | some (.ref _) => ev_call cb d r1 r2 lv st L
      | _ => none)
  | .invokestatic _ => if r1 < 298 then ev_call cb d r1 r2 lv st L else none
  | _ => none
theorem ev_A2 : ∀ us, ∃ f, ev_A 2 us = .inr (.inl f)
  | [] => ⟨_, rfl⟩
  | (i, v) :: us => by
    obtain ⟨f, hf⟩ := ev_A2 us
    unfold ev_A
    rw [hf]
    cases v
    case long x => exact ⟨_, rfl⟩
    all_goals exact ⟨_, rfl⟩
theorem ev_A5 : ∀ us, ∃ f, ev_A 5 us = .inr (.inr (.inr (.inr f)))
  | [] => ⟨_, rfl⟩
  | (i, v) :: us => by
    obtain ⟨f, hf⟩ := ev_A5 us
    unfold ev_A
    rw [hf]
    cases v
    case ref x => exact ⟨_, rfl⟩
    all_goals exact ⟨_, rfl⟩
def ev_ok (P : gc_Pr) (cb : ev_B) : Prop := ∀ (d y : Nat) (lv : List Value) (L : List ev_C) (c s : Nat) (r : Option Value) (L' : List ev_C), cb d y lv L = some (c, s, r, L') → ∀ (ks : Nat) (Q : gc_Q), s ≤ ks → Q r (ev_H L') → P d c ks y 0 lv [] (ev_H L) Q
section Ev
variable {P : gc_Pr} {cb : ev_B} {d y pc nx r1 r2 c s : Nat} {cn : Int32} {ins : Instr} {lv st lv' st' : List Value} {L L' : List ev_C}
theorem ev_call_s (hcb : ev_ok P cb) {nA : Nat} (h : ev_call cb d r1 nA lv st L = some (c, s, lv', st', L')) {kc ks : Nat} {K : Nat → Nat → List Value → List Value → gc_H → Prop} (hs : s ≤ ks) (hK : K kc (ks - s) lv' st' (ev_H L')) : gc_call P d r1 nA (gc_mL r1) (c + kc) ks st (ev_H L) (fun kc ks st S => K kc ks lv st S) := by
  unfold ev_call at h
  by_cases z : 1 ≤ d ∧ nA ≤ st.length ∧ (st.drop nA).length ≤ 4 ∧ (gc_ent (st.take nA).reverse).length ≤ gc_mL r1
  · rw [if_pos z] at h
    cases hq : cb (d - 1) r1 (gc_pad (gc_mL r1) (gc_ent (st.take nA).reverse)) L with
    | none => rw [hq] at h; exact absurd h (by simp)
    | some w =>
      obtain ⟨c1, s1, r, L1⟩ := w
      rw [hq] at h
      have h' : some (c1, s1, lv, r.toList ++ st.drop nA, L1) = some (c, s, lv', st', L') := h
      simp only [Option.some.injEq, Prod.mk.injEq] at h'
      obtain ⟨rfl, rfl, rfl, rfl, rfl⟩ := h'
      refine ⟨z.1, z.2.1, z.2.2.1, z.2.2.2, c1, s1, Nat.le_add_right _ _, hs, hcb _ _ _ _ _ _ _ _ hq _ _ (Nat.le_refl _) ?_⟩
      rw [Nat.add_sub_cancel_left]
      exact hK
  · rw [if_neg z] at h
    exact absurd h (by simp)
end Ev
