/-! The heap behind the constructors is that of the empty law. -/
def iL : List ev_C := hp_c ++ hp_r
def iF (q k : Nat) : Int32 := match iL[q]? with
  | some (.inr (_, fs)) => (match fs[k]? with
    | some (.int x) => x
    | _ => 0)
  | _ => 0
def iJ (q : Nat) : Nat → Int64 := match iL[q]? with
  | some (.inl (_, _, us)) => (match ev_A 2 us with
    | .inr (.inl f) => f
    | _ => fun _ => 0)
  | _ => fun _ => 0
def i0 : gc_St := (iF, fun _ _ => 0, iJ, fun _ => none, 0, 11, 54, none, 46, 0, fun _ => 0)
def iOk (k : Nat) : Bool := match iL[k]? with
  | some (.inr (ci, fs)) => decide (gc_kS.getD k (99, 0) = (ci + 100, fs.length)) && decide (fs = (List.range fs.length).map (gc_fv i0 k ci))
  | some (.inl (t, n, us)) => decide (gc_kS.getD k (99, 0) = (t, n)) && (decide (t = 2) || (decide (us = []) && (decide (t = 0) || (decide (t = 1) || (decide (t = 3) || decide (t = 4))))))
  | none => false
set_option maxRecDepth 100000 in
theorem iOk_all : ∀ k, k < 116 → k ≠ 50 → iOk k = true := by decide +kernel
theorem i50 : iL[50]? = some (.inl (5, 3, [(2, .ref 53), (1, .ref 52), (0, .ref 51)])) ∧ gc_kS.getD 50 (99, 0) = (5, 3) ∧ iL.length = 116 := ⟨rfl, rfl, rfl⟩
theorem i_cell {k : Nat} (hk : k < 116) (h : iOk k = true) : (ev_H iL).2 k = (gc_bT i0).2 k := by
  have e2 : (gc_bT i0).2 k = gc_cell i0 k (gc_kS.getD k (99, 0)) := by
    have hb : Nat.ble 116 k = false := bf fun z => by have := Nat.le_of_ble_eq_true z; omega
    show (match Nat.ble 116 k with
      | true => _
      | false => gc_cell i0 k (gc_kS.getD k (99, 0))) = _
    rw [hb]
  rw [e2]
  unfold iOk at h
  split at h
  · rename_i ci fs hc
    simp only [Bool.and_eq_true, decide_eq_true_eq] at h
    rw [(ev_H_at hc).2, h.1]
    have hb : Nat.ble 100 (ci + 100) = true := Nat.ble_eq_true_of_le (by omega)
    unfold gc_cell
    dsimp only
    rw [hb, Nat.add_sub_cancel]
    exact congrArg (fun z => (Sum.inr (ci, z) : gc_E)) h.2
  · rename_i t n us hc
    simp only [Bool.and_eq_true, Bool.or_eq_true, decide_eq_true_eq] at h
    rw [(ev_H_at hc).2, h.1]
    rcases h.2 with rfl | ⟨rfl, rfl | rfl | rfl | rfl⟩
    · obtain ⟨f, hf⟩ := ev_A2 us
      have hj : iJ k = f := by
        unfold iJ
        rw [hc]
        show (match ev_A 2 us with
          | .inr (.inl f) => f
          | _ => fun _ => 0) = f
        rw [hf]
      show Sum.inl (2, n, ev_A 2 us) = Sum.inl (2, n, Sum.inr (Sum.inl (iJ k)))
      rw [hf, hj]
    · rfl
    · rfl
    · rfl
    · rfl
  · exact absurd h (by simp)
theorem i_c50 (cA : ClassId) (B : Nat) : vp_cell cA (3, gc_trA B (ev_A 5 [(2, .ref 53), (1, .ref 52), (0, .ref 51)])) = vp_cell cA (3, gc_trA B (.inr (.inr (.inr (.inr (fun j => some (51 + j))))))) := by
  have e : ev_A 5 [(2, .ref 53), (1, .ref 52), (0, .ref 51)] = .inr (.inr (.inr (.inr (va_up (va_up (va_up (fun _ => none) 0 (some 51)) 1 (some 52)) 2 (some 53))))) := rfl
  rw [e]
  show arrV cA 3 (fun j => va_rf (Option.map (fun a => B + a) (va_up (va_up (va_up (fun _ => none) 0 (some 51)) 1 (some 52)) 2 (some 53) j))) = arrV cA 3 (fun j => va_rf (Option.map (fun a => B + a) (some (51 + j))))
  unfold arrV
  refine congrArg (fun z => ({ cls := cA, slots := z, vm := .none } : Cell)) (congrArg Array.ofFn (funext fun j => ?_))
  have : ∀ j : Fin 3, va_up (va_up (va_up (fun _ => none) 0 (some 51)) 1 (some 52)) 2 (some 53) j.val = some (51 + j.val) := by decide
  show va_rf (Option.map _ (va_up (va_up (va_up (fun _ => none) 0 (some 51)) 1 (some 52)) 2 (some 53) j.val)) = va_rf (Option.map _ (some (51 + j.val)))
  rw [this j]
theorem i_Wo {D : va_G} {cy : Nat → ClassId} {B : Nat} {H : Heap} (h : gc_Wo D cy B (ev_H iL) H) : gc_Wo D cy B (gc_bT i0) H := by
  refine ⟨h.1, fun k q hq => ?_⟩
  have hk : k < 116 := by
    have := (List.getElem?_eq_some_iff.mp hq).1
    rw [show (gc_wl B cy (gc_bT i0)).length = 116 by unfold gc_wl; rw [List.length_map, List.length_range]; rfl] at this
    exact this
  have h1 := h.2 k (B + k, gc_trE B cy ((ev_H iL).2 k)) (gc_wl_get (by show k < iL.length; rw [i50.2.2]; exact hk))
  rw [gc_wl_get (show k < (gc_bT i0).1 from hk)] at hq
  obtain rfl := Option.some.inj hq
  by_cases e : k = 50
  · subst e
    rw [(ev_H_at i50.1).2] at h1
    have h2 : H[B + 50]? = some (vp_cell (cy 5) (3, gc_trA B (ev_A 5 [(2, .ref 53), (1, .ref 52), (0, .ref 51)]))) := h1
    rw [i_c50] at h2
    exact h2
  · rw [← i_cell hk (iOk_all k hk e)]
    exact h1
theorem kF_all {f : Nat → Bool} : ∀ m j, (∀ i, f i = true) → kF f j m = m
  | 0, j, _ => rfl
  | m + 1, j, h => by rw [kF_S, if_pos (h j), kF_all m (j + 1) h]; omega
def a0 : gA := (W0, [], 0, (0, 0, 0), fun _ => none, [], 0, none, -1)
theorem i_J8 : ∀ k, k < 20 → iJ 8 k = lN (w32 k) := by decide +kernel
theorem i_J68 : ∀ k, k < 8 → iJ 68 k = lN (w27 (pw k)) := by decide +kernel
theorem i_J75 : ∀ k, k < 10 → iJ 75 k = lN (k27 k) := by decide +kernel
theorem i_F : iF 10 1 = 1 ∧ iF 49 0 = 0 ∧ iF 49 1 = 0 ∧ iF 49 2 = 0 ∧ iF 11 0 = 0 ∧ iF 11 1 = 0 ∧ iF 11 2 = 0 ∧ iF 11 3 = 0 ∧ iF 11 4 = 0 ∧ iF 11 6 = 0 ∧ iF 1 1 = 0 ∧ iF 40 5 = 0 ∧ iF 40 4 = 0 ∧ iF 28 16 = 0 ∧ iF 0 12 = -1 ∧ iF 45 3 = 0 := by decide +kernel
theorem i_F5 : ∀ k, k < 3 → iF (51 + k) 3 = 0 := by decide +kernel
theorem i_R : iF 67 19 = 0 ∧ iF 67 53 = -1 ∧ iF 67 49 = 0 ∧ iF 67 50 = 0 ∧ iF 67 51 = 0 ∧ iF 67 3 = 0 ∧ iF 67 77 = 0 ∧ iF 67 79 = 0 ∧ iF 67 68 = 0 ∧ iF 67 18 = -1 := by decide +kernel
theorem i_XI : XI a0 11 0 1 i0 := by
  obtain ⟨f1, f2, f3, f4, f5, f6, f7, f8, f9, f10, f11, f12, f13, f14, f15, f16⟩ := i_F
  obtain ⟨r1, r2, r3, r4, r5, r6, r7, r8, r9, r10⟩ := i_R
  have nl : ∀ l : Nat × Nat × Nat, ¬ l ∈ ([] : List (Nat × Nat × Nat)) := fun l => List.not_mem_nil
  have dl : ∀ k, ¬ ld_dl W0 k := fun k h => by
    have h' : k < 0 ∨ (3 ≤ k ∧ k < 3 + 0) := h
    omega
  have hlaw : cl_law W0 11 i0 := ⟨⟨f5, f6, f7, f8, f9⟩, fun g hg => absurd hg (Nat.not_lt_zero _), fun k hk => absurd hk (dl k), fun c hc => absurd hc (Nat.not_lt_zero _), fun p hp => absurd hp (Nat.not_lt_zero _)⟩
  refine ⟨⟨by decide, fun e e' he => (List.not_mem_nil (show e ∈ ([] : List (List Nat × Nat × Nat)) from he)).elim, fun e he => (List.not_mem_nil (show e ∈ ([] : List (List Nat × Nat × Nat)) from he)).elim, fun k h z => absurd (show (none : Option (Nat × Nat × Nat)) = some h from z) (by simp), fun i l hl => absurd (show (none : Option (Nat × Nat × Nat)) = some l from hl) (by simp), by decide, fun l hl => absurd hl (nl l)⟩, ?_, ?_, fun j hj => absurd hj (Nat.not_lt_zero j)⟩
  · refine ⟨⟨⟨⟨Or.inl rfl, rfl, hlaw, W0_ok, fun k hk => absurd hk (dl k)⟩, f1, fun i _ => ⟨0, by omega, rfl⟩, ⟨⟨Or.inl rfl, by decide⟩, fun i a _ h => absurd (show (none : Option Nat) = some a from h) (by simp), fun i j a _ _ h => absurd (show (none : Option Nat) = some a from h) (by simp)⟩, fun o p b _ hp => absurd hp (Nat.not_lt_zero _)⟩, by decide, ⟨f2, f3, f4⟩, by decide, by decide, by decide⟩, ⟨⟨f10, Nat.zero_le _, fun k e he => absurd (show (none : Option (List Nat × Nat × Nat)) = some e from he) (by simp)⟩, i_J8, rfl⟩, f11, fun k hk => Or.inl ⟨rfl, i_F5 k hk⟩, ⟨⟨f12, fun i l hl => absurd (show (none : Option (Nat × Nat × Nat)) = some l from hl) (by simp)⟩, f13, fun l hl => absurd hl (nl l)⟩, Or.inl ⟨rfl, f14⟩, f15, Or.inl rfl, fun z => absurd f16 z, ?_⟩
    have e : kF (fun i => (gc_Y i0 i).isNone) 0 1536 = 1536 := kF_all 1536 0 (fun _ => rfl)
    unfold cnt
    rw [e]
    rfl
  · refine ⟨⟨⟨⟨by decide, r1, W0_ok⟩, ⟨rfl, rfl, rfl, rfl, rfl⟩, fun g hg => absurd hg (Nat.not_lt_zero _), fun k hk => absurd hk (Nat.not_lt_zero _), fun k hk => absurd hk (Nat.not_lt_zero _), fun c hc => absurd hc (Nat.not_lt_zero _), fun p hp => absurd hp (Nat.not_lt_zero _)⟩, ⟨-1, r2, Or.inl rfl⟩, ⟨r3, r4, r5⟩, by decide, by decide, by decide⟩, ⟨⟨by decide, Nat.zero_le _, fun k e he => absurd (show (none : Option (List Nat × Nat × Nat)) = some e from he) (by simp)⟩, rfl, i_J68, i_J75⟩, r6, fun k hk => Or.inl ⟨rfl, rfl⟩, ⟨⟨r7, fun i l hl => absurd (show (none : Option (Nat × Nat × Nat)) = some l from hl) (by simp)⟩, r8⟩, Or.inl ⟨rfl, r9⟩, r10⟩
