/-! The evaluator is right. -/
section Ev
variable {P : gc_Pr} {cb : ev_B} {d y pc nx r1 r2 c s : Nat} {cn : Int32} {ins : Instr} {lv st lv' st' : List Value} {L L' : List ev_C} {Q : gc_Q} {kc ks : Nat} {K : Nat → Nat → List Value → List Value → gc_H → Prop}
theorem ev_inj {w : Nat × Nat × List Value × List Value × List ev_C} (h : (some w : ev_O) = some (c, s, lv', st', L')) : w = (c, s, lv', st', L') := Option.some.inj h
theorem ev_pure {a b : List Value} (h : (some (0, 0, a, b, L) : ev_O) = some (c, s, lv', st', L')) (hK : K kc (ks - s) lv' st' (ev_H L')) : c + kc = kc ∧ K kc ks a b (ev_H L) := by
  have := ev_inj h
  simp only [Prod.mk.injEq] at this
  obtain ⟨rfl, rfl, rfl, rfl, rfl⟩ := this
  exact ⟨Nat.zero_add _, hK⟩
theorem ev_wr {a b : List Value} {L2 : List ev_C} (h : (some (0, 0, a, b, L2) : ev_O) = some (c, s, lv', st', L')) (hK : K kc (ks - s) lv' st' (ev_H L')) : c + kc = kc ∧ K kc ks a b (ev_H L2) := by
  have := ev_inj h
  simp only [Prod.mk.injEq] at this
  obtain ⟨rfl, rfl, rfl, rfl, rfl⟩ := this
  exact ⟨Nat.zero_add _, hK⟩
theorem ev_nw {a b : List Value} {n : Nat} {L2 : List ev_C} (h : (some (1, n, a, b, L2) : ev_O) = some (c, s, lv', st', L')) (hs : s ≤ ks) (hK : K kc (ks - s) lv' st' (ev_H L')) : 1 ≤ c + kc ∧ n ≤ ks ∧ K (c + kc - 1) (ks - n) a b (ev_H L2) := by
  have := ev_inj h
  simp only [Prod.mk.injEq] at this
  obtain ⟨rfl, rfl, rfl, rfl, rfl⟩ := this
  exact ⟨by omega, hs, by rw [Nat.add_sub_cancel_left]; exact hK⟩
theorem ev_no {w : Nat × Nat × List Value × List Value × List ev_C} {p : Prop} (h : (none : ev_O) = some w) : p := absurd h (by simp)
theorem ev_x_s (hcb : ev_ok P cb) (h : ev_x cb d ins r1 r2 cn lv st L = some (c, s, lv', st', L')) (hs : s ≤ ks) (hK : K kc (ks - s) lv' st' (ev_H L')) : gc_ex P gc_mL gc_mC gc_dfl d y (pc, nx, ins, r1, r2, cn) (c + kc) ks lv st (ev_H L) Q K := by
  unfold ev_x at h
  split at h
  · split at h
    · rename_i n _ a ha
      obtain ⟨e, k⟩ := ev_pure h hK
      rw [e]
      show gc_lA lv n.val (fun v => K kc ks lv (v :: st) (ev_H L))
      unfold gc_lA
      rw [ha]
      exact k
    · exact ev_no h
  · split at h
    · rename_i n _ a ha
      obtain ⟨e, k⟩ := ev_pure h hK
      rw [e]
      show gc_lI lv n.val _
      unfold gc_lI
      rw [ha]
      exact k
    · exact ev_no h
  · split at h
    · rename_i n _ a ha
      obtain ⟨e, k⟩ := ev_pure h hK
      rw [e]
      show gc_lI lv n _
      unfold gc_lI
      rw [ha]
      exact k
    · exact ev_no h
  · split at h
    · rename_i n _ a ha
      obtain ⟨e, k⟩ := ev_pure h hK
      rw [e]
      show gc_lL lv n.val _
      unfold gc_lL
      rw [ha]
      exact k
    · exact ev_no h
  · split at h
    · obtain ⟨e, k⟩ := ev_pure h hK
      rw [e]
      exact k
    · exact ev_no h
  · split at h
    · rename_i n _ _ a ha
      obtain ⟨e, k⟩ := ev_pure h hK
      rw [e]
      show gc_lI lv n _
      unfold gc_lI
      rw [ha]
      exact k
    · exact ev_no h
  · obtain ⟨e, k⟩ := ev_pure h hK
    rw [e]
    exact k
  · obtain ⟨e, k⟩ := ev_pure h hK
    rw [e]
    exact k
  · obtain ⟨e, k⟩ := ev_pure h hK
    rw [e]
    exact k
  · obtain ⟨e, k⟩ := ev_pure h hK
    rw [e]
    exact k
  · obtain ⟨e, k⟩ := ev_pure h hK
    rw [e]
    exact k
  · obtain ⟨e, k⟩ := ev_pure h hK
    rw [e]
    exact k
  · split at h
    · obtain ⟨e, k⟩ := ev_pure h hK
      rw [e]
      exact k
    · exact ev_no h
  · split at h
    · obtain ⟨e, k⟩ := ev_pure h hK
      rw [e]
      exact k
    · exact ev_no h
  · split at h
    · obtain ⟨e, k⟩ := ev_pure h hK
      rw [e]
      exact k
    · exact ev_no h
  · split at h
    · obtain ⟨e, k⟩ := ev_pure h hK
      rw [e]
      exact k
    · exact ev_no h
  · split at h
    · obtain ⟨e, k⟩ := ev_pure h hK
      rw [e]
      exact k
    · exact ev_no h
  · split at h
    · obtain ⟨e, k⟩ := ev_pure h hK
      rw [e]
      exact k
    · exact ev_no h
  · -- getfield
    split at h
    · split at h
      · rename_i a r _ ci fs ha
        split at h
        · rename_i _ x hx
          split at h
          · rename_i z
            obtain ⟨e, k⟩ := ev_pure h hK
            obtain ⟨q1, q2⟩ := ev_H_at ha
            rw [e]
            show ∃ fs, _ ∧ _ ∧ (match r2 % 4 with
              | 0 => _
              | 1 => _
              | _ => _)
            refine ⟨fs, q1, by rw [q2, ← z.1]; rfl, ?_⟩
            rw [z.2]
            exact ⟨x, hx, k⟩
          · exact ev_no h
        · exact ev_no h
      · exact ev_no h
    · exact ev_no h
  · -- putfield
    split at h
    · split at h
      · rename_i x a r _ ci fs ha
        split at h
        · rename_i z
          obtain ⟨e, k⟩ := ev_wr h hK
          obtain ⟨q1, q2⟩ := ev_H_at ha
          rw [e]
          show ∃ fs, _ ∧ _ ∧ _ ∧ (match r2 % 4, Value.ref x with
            | 0, .int x => _
            | 1, .long x => _
            | 2, .ref x => _
            | 3, .int x => _
            | _, _ => _)
          refine ⟨fs, q1, by rw [q2, ← z.1]; rfl, z.2.2, ?_⟩
          rw [z.2.1]
          show K kc ks lv r (gc_up (ev_H L) a (.inr (r1, fs.set (r2 / 4) (.ref x))))
          rw [ev_H_set (c := .inr (ci, fs.set (r2 / 4) (.ref x))) q1 (by rw [z.1]; rfl)]
          exact k
        · exact ev_no h
      · exact ev_no h
    · split at h
      · rename_i x a r _ ci fs ha
        split at h
        · rename_i z
          obtain ⟨e, k⟩ := ev_wr h hK
          obtain ⟨q1, q2⟩ := ev_H_at ha
          rw [e]
          show ∃ fs, _ ∧ _ ∧ _ ∧ (match r2 % 4, Value.int x with
            | 0, .int x => _
            | 1, .long x => _
            | 2, .ref x => _
            | 3, .int x => _
            | _, _ => _)
          refine ⟨fs, q1, by rw [q2, ← z.1]; rfl, z.2.2, ?_⟩
          rw [z.2.1]
          show K kc ks lv r (gc_up (ev_H L) a (.inr (r1, fs.set (r2 / 4) (.int x))))
          rw [ev_H_set (c := .inr (ci, fs.set (r2 / 4) (.int x))) q1 (by rw [z.1]; rfl)]
          exact k
        · exact ev_no h
      · exact ev_no h
    · exact ev_no h
  · -- new
    obtain ⟨e1, e2, k⟩ := ev_nw h hs hK
    refine ⟨e1, e2, ?_⟩
    rw [ev_H_new (e := .inr (r1, gc_dfl r1)) (c := .inr (r1, gc_dfl r1)) rfl]
    exact k
  · split at h
    · rename_i n r
      split at h
      · rename_i z
        obtain ⟨e1, e2, k⟩ := ev_nw h hs hK
        refine ⟨z.1, z.2, e1, e2, ?_⟩
        rw [ev_H_new (e := .inl (r1, n.toNatClampNeg, gc_zero r1)) (c := .inl (r1, n.toNatClampNeg, [])) rfl]
        exact k
      · exact ev_no h
    · exact ev_no h
  · split at h
    · rename_i n r
      split at h
      · rename_i z
        obtain ⟨e1, e2, k⟩ := ev_nw h hs hK
        refine ⟨z.1, z.2, e1, e2, ?_⟩
        rw [ev_H_new (e := .inl (r1, n.toNatClampNeg, gc_zero r1)) (c := .inl (r1, n.toNatClampNeg, [])) rfl]
        exact k
      · exact ev_no h
    · exact ev_no h
  · -- lastore
    split at h
    · rename_i x i a r
      split at h
      · rename_i t n us ha
        split at h
        · rename_i z
          obtain ⟨e, k⟩ := ev_wr h hK
          obtain ⟨q1, q2⟩ := ev_H_at ha
          obtain ⟨rfl, z2⟩ := z
          obtain ⟨f, hf⟩ := ev_A2 us
          rw [e]
          refine ⟨n, f, q1, by rw [q2, ← hf]; rfl, z2, ?_⟩
          rw [ev_H_set (c := .inl (2, n, (i.toNatClampNeg, .long x) :: us)) q1 (by show _ = Sum.inl (2, n, ev_st (ev_A 2 us) i.toNatClampNeg (.long x)); rw [hf]; rfl)]
          exact k
        · exact ev_no h
      · exact ev_no h
    · exact ev_no h
  · -- aastore
    split at h
    · rename_i b i a r
      split at h
      · rename_i t n us ha
        split at h
        · rename_i ci fs hb
          split at h
          · rename_i z
            obtain ⟨e, k⟩ := ev_wr h hK
            obtain ⟨q1, q2⟩ := ev_H_at ha
            obtain ⟨p1, p2⟩ := ev_H_at hb
            obtain ⟨rfl, rfl, z2⟩ := z
            obtain ⟨f, hf⟩ := ev_A5 us
            rw [e]
            refine Or.inl ⟨n, f, q1, by rw [q2, ← hf]; rfl, z2, ⟨p1, fs, p2⟩, ?_⟩
            rw [ev_H_set (c := .inl (5, n, (i.toNatClampNeg, .ref b) :: us)) q1 (by show _ = Sum.inl (5, n, ev_st (ev_A 5 us) i.toNatClampNeg (.ref b)); rw [hf]; rfl)]
            exact k
          · exact ev_no h
        · exact ev_no h
      · exact ev_no h
    · exact ev_no h
  · -- invokespecial
    split at h
    · rename_i z
      subst z
      split at h
      · split at h
        · rename_i z2
          obtain ⟨e, k⟩ := ev_pure h hK
          rw [e]
          exact ⟨z2.1, z2.2, k⟩
        · exact ev_no h
      · exact ev_no h
    · rename_i z
      split at h
      · rename_i b hb
        have hr : gc_rcv st r2 := by
          unfold gc_rcv
          rw [hb]
          trivial
        have hc := ev_call_s (K := K) hcb h hs hK
        unfold gc_ex
        dsimp only
        split
        · exact absurd rfl z
        · exact ⟨hr, hc⟩
      · exact ev_no h
  · -- invokestatic
    split at h
    · rename_i z
      have hc := ev_call_s (K := K) hcb h hs hK
      unfold gc_ex
      dsimp only
      split
      · omega
      · omega
      · omega
      · exact hc
    · exact ev_no h
  · exact ev_no h
end Ev
def ev_b : Nat → Nat → Nat → List gc_El → List Value → List Value → List ev_C → ev_R
  | 0, _, _, _, _, _, _ => none
  | _ + 1, _, _, [], _, _, _ => none
  | f + 1, d, y, (_, _, ins, r1, r2, cn) :: es, lv, st, L => match ins with
    | .return_ => (match st with
      | [] => some (0, 0, none, L)
      | _ => none)
    | .lreturn => (match st with
      | [.long x] => some (0, 0, some (.long x), L)
      | _ => none)
    | .goto _ => ev_b f d y ((gc_cd y).dropWhile (fun e => e.1 != r1)) lv st L
    | .if_icmp .ge _ => (match st with
      | .int z :: .int x :: r => if z ≤ x then ev_b f d y ((gc_cd y).dropWhile (fun e => e.1 != r1)) lv r L else ev_b f d y es lv r L
      | _ => none)
    | .ifCond .ne _ => (match st with
      | .int x :: r => if x = 0 then ev_b f d y es lv r L else ev_b f d y ((gc_cd y).dropWhile (fun e => e.1 != r1)) lv r L
      | _ => none)
    | ins => (match ev_x (fun d y lv L => if y < 298 then ev_b f d y ((gc_cd y).dropWhile (fun e => e.1 != 0)) lv [] L else none) d ins r1 r2 cn lv st L with
      | some (c, s, lv', st', L') => (match ev_b f d y es lv' st' L' with
        | some (c2, s2, r, L2) => some (c + c2, s + s2, r, L2)
        | none => none)
      | none => none)
theorem ev_b_nil (f d y : Nat) (lv st : List Value) (L : List ev_C) : ev_b f d y [] lv st L = none := by
  cases f <;> rfl
def ev_cb (f : Nat) : ev_B := fun d y lv L => if y < 298 then ev_b f d y ((gc_cd y).dropWhile (fun e => e.1 != 0)) lv [] L else none
theorem ev_P {P : gc_Pr} (hP : gc_Cl P) {f d y pc c s ks : Nat} {lv st : List Value} {L L' : List ev_C} {r : Option Value} {Q : gc_Q} (hy : y < 298) (h : ev_b f d y ((gc_cd y).dropWhile (fun e => e.1 != pc)) lv st L = some (c, s, r, L')) (hb : gc_blk P gc_mL gc_mC gc_dfl d y Q ((gc_cd y).dropWhile (fun e => e.1 != pc)) pc c ks lv st (ev_H L)) : P d c ks y pc lv st (ev_H L) Q := by
  refine hP d c ks y pc lv st (ev_H L) Q _ hy (List.prefix_refl _) (fun z => ?_) hb
  rw [z, ev_b_nil] at h
  exact absurd h (by simp)
theorem ev_b_s {P : gc_Pr} (hP : gc_Cl P) : ∀ (f d y : Nat) (es : List gc_El) (lv st : List Value) (L : List ev_C) (c s : Nat) (r : Option Value) (L' : List ev_C), y < 298 → ev_b f d y es lv st L = some (c, s, r, L') → ∀ (pc ks : Nat) (Q : gc_Q), s ≤ ks → Q r (ev_H L') → gc_blk P gc_mL gc_mC gc_dfl d y Q es pc c ks lv st (ev_H L) := by
  intro f
  induction f with
  | zero => intro d y es lv st L c s r L' _ h; exact absurd h (by simp [ev_b])
  | succ f ih =>
    intro d y es lv st L c s r L' hy h pc ks Q hs hQ
    have hcb : ev_ok P (ev_cb f) := by
      intro d y lv L c s r L' h ks Q hs hQ
      unfold ev_cb at h
      by_cases z : y < 298
      · rw [if_pos z] at h
        exact ev_P hP z h (ih _ _ _ _ _ _ _ _ _ _ z h 0 ks Q hs hQ)
      · rw [if_neg z] at h
        exact absurd h (by simp)
    cases es with
    | nil => exact absurd h (by rw [ev_b_nil]; simp)
    | cons el es =>
      obtain ⟨pc0, nx, ins, r1, r2, cn⟩ := el
      have jump : ∀ (pc : Nat) (st : List Value), ev_b f d y ((gc_cd y).dropWhile (fun e => e.1 != pc)) lv st L = some (c, s, r, L') → P d c ks y pc lv st (ev_H L) Q := fun pc st h => ev_P hP hy h (ih _ _ _ _ _ _ _ _ _ _ hy h pc ks Q hs hQ)
      have go : ∀ (st : List Value), ev_b f d y es lv st L = some (c, s, r, L') → gc_blk P gc_mL gc_mC gc_dfl d y Q es nx c ks lv st (ev_H L) := fun st h => ih _ _ _ _ _ _ _ _ _ _ hy h nx ks Q hs hQ
      unfold ev_b at h
      split at h
      · split at h
        · obtain ⟨rfl, rfl, rfl, rfl⟩ := (by simpa using h : (0 : Nat) = c ∧ (0 : Nat) = s ∧ none = r ∧ L = L')
          exact ⟨rfl, hQ⟩
        · exact absurd h (by simp)
      · split at h
        · rename_i x
          obtain ⟨rfl, rfl, rfl, rfl⟩ := (by simpa using h : (0 : Nat) = c ∧ (0 : Nat) = s ∧ some (Value.long x) = r ∧ L = L')
          exact ⟨rfl, hQ⟩
        · exact absurd h (by simp)
      · exact jump _ _ h
      · split at h
        · rename_i z x r'
          refine ⟨fun q => ?_, fun q => ?_⟩
          · rw [if_pos q] at h
            exact jump _ _ h
          · rw [if_neg q] at h
            exact go _ h
        · exact absurd h (by simp)
      · split at h
        · rename_i x r'
          refine ⟨fun q => ?_, fun q => ?_⟩
          · rw [if_neg q] at h
            exact jump _ _ h
          · rw [if_pos q] at h
            exact go _ h
        · exact absurd h (by simp)
      · split at h
        · rename_i c1 s1 lv1 st1 L1 hx
          split at h
          · rename_i c2 s2 r2' L2 hb
            obtain ⟨rfl, rfl, rfl, rfl⟩ := (by simpa using h : c1 + c2 = c ∧ s1 + s2 = s ∧ r2' = r ∧ L2 = L')
            exact ev_x_s (kc := c2) (ks := ks) hcb hx (by omega) (ih _ _ _ _ _ _ _ _ _ _ hy hb nx (ks - s1) Q (by omega) hQ)
          · exact absurd h (by simp)
        · exact absurd h (by simp)
/-- a method from its beginning -/
theorem ev_run {P : gc_Pr} (hP : gc_Cl P) {f d y c s ks : Nat} {lv : List Value} {L L' : List ev_C} {r : Option Value} {Q : gc_Q} (hy : y < 298) (h : ev_b f d y ((gc_cd y).dropWhile (fun e => e.1 != 0)) lv [] L = some (c, s, r, L')) (hs : s ≤ ks) (hQ : Q r (ev_H L')) : P d c ks y 0 lv [] (ev_H L) Q := ev_P hP hy h (ev_b_s hP _ _ _ _ _ _ _ _ _ _ _ hy h 0 ks Q hs hQ)
