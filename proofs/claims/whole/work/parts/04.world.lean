/-! The small machine's states in the great one: addresses are B and the place in the row. -/
def gc_tr (B : Nat) : Value → Value
  | .ref a => .ref (B + a)
  | v => v
def gc_trA (B : Nat) (x : (Nat → Int32) ⊕ (Nat → Int64) ⊕ (Nat → UInt32) ⊕ (Nat → UInt64) ⊕ (Nat → Option Nat)) : (Nat → Int32) ⊕ (Nat → Int64) ⊕ (Nat → UInt32) ⊕ (Nat → UInt64) ⊕ (Nat → Option Nat) := match x with
  | .inr (.inr (.inr (.inr f))) => .inr (.inr (.inr (.inr (fun j => (f j).map (fun a => B + a)))))
  | y => y
def gc_trE (B : Nat) (cy : Nat → ClassId) (e : gc_E) : va_E := match e with
  | .inl (t, n, c) => .inl (cy t, n, gc_trA B c)
  | .inr (ci, fs) => .inr (ci, fs.map (gc_tr B))
def gc_wl (B : Nat) (cy : Nat → ClassId) (S : gc_H) : va_W := (List.range S.1).map (fun k => (B + k, gc_trE B cy (S.2 k)))
abbrev gc_A (B : Nat) : Nat → Prop := fun q => B ≤ q
def gc_tys (cy : Nat → ClassId) : List (ClassId × FieldType) := [(cy 0, .int), (cy 1, .byte), (cy 2, .long), (cy 3, .boolean), (cy 4, .array .int), (cy 5, .object "GroundCourt$Hand")]
theorem gc_wl_get {B : Nat} {cy : Nat → ClassId} {S : gc_H} {a : Nat} (h : a < S.1) : (gc_wl B cy S)[a]? = some (B + a, gc_trE B cy (S.2 a)) := by
  simp [gc_wl, h]
theorem gc_wl_up {B : Nat} {cy : Nat → ClassId} {S : gc_H} {a : Nat} {e : gc_E} : (gc_wl B cy S).set a (B + a, gc_trE B cy e) = gc_wl B cy (gc_up S a e) := by
  apply List.ext_getElem?
  intro k
  rw [List.getElem?_set]
  by_cases hk : a = k
  · subst hk
    by_cases h : a < S.1
    · simp [gc_wl, gc_up, h]
    · simp [gc_wl, gc_up, h]
  · rw [if_neg hk]
    by_cases h : k < S.1
    · simp [gc_wl, gc_up, h, Ne.symm hk]
    · simp [gc_wl, gc_up, h]
theorem gc_wl_nw {B : Nat} {cy : Nat → ClassId} {S : gc_H} {e : gc_E} : gc_wl B cy S ++ [(B + S.1, gc_trE B cy e)] = gc_wl B cy (gc_nw S e) := by
  simp only [gc_wl, gc_nw, List.range_succ, List.map_append, List.map_cons, List.map_nil, if_pos]
  congr 1
  apply List.map_congr_left
  intro k hk
  have : k < S.1 := List.mem_range.mp hk
  simp [Nat.ne_of_lt this]
theorem gc_wl_D {B : Nat} {cy : Nat → ClassId} {S : gc_H} : va_D (gc_A B) (gc_wl B cy S) := by
  refine ⟨fun i j p q hi hj e => ?_, fun k q hk => ?_⟩
  · simp only [gc_wl, List.getElem?_map, Option.map_eq_some_iff] at hi hj
    obtain ⟨a, ha, rfl⟩ := hi
    obtain ⟨b, hb, rfl⟩ := hj
    obtain ⟨h1, rfl⟩ := List.getElem?_eq_some_iff.mp ha
    obtain ⟨h2, rfl⟩ := List.getElem?_eq_some_iff.mp hb
    simp only [List.getElem_range] at e
    omega
  · simp only [gc_wl, List.getElem?_map, Option.map_eq_some_iff] at hk
    obtain ⟨a, -, rfl⟩ := hk
    exact Nat.le_add_right _ _
/-- the heap is the row of cells, and all that lie from B on -/
def gc_Wo (D : va_G) (cy : Nat → ClassId) (B : Nat) (S : gc_H) (H : Heap) : Prop := H.size = B + S.1 ∧ va_P D vwCl (gc_wl B cy S) H
/-- locals -/
def gc_lv (B : Nat) (ls : Array Slot) (n : Nat) (lv : List Value) : Prop := ls.size = n ∧ lv_wf ls ∧ ∀ (k : Nat) (v : Value), lv[k]? = some v → v ≠ gc_u → ls[k]? = some (.val (gc_tr B v))
def gc_asc (B : Nat) (lv : List Value) : List (Nat × Value) := (List.range lv.length).filterMap (fun k => (lv[k]?).bind (fun v => if v = gc_u then none else some (k, gc_tr B v)))
theorem gc_asc_mem {B : Nat} {lv : List Value} {k : Nat} {w : Value} : (k, w) ∈ gc_asc B lv ↔ ∃ v, lv[k]? = some v ∧ v ≠ gc_u ∧ w = gc_tr B v := by
  simp only [gc_asc, List.mem_filterMap, List.mem_range, Option.bind_eq_some_iff]
  constructor
  · rintro ⟨j, hj, v, hv, h⟩
    by_cases hu : v = gc_u
    · rw [if_pos hu] at h; cases h
    · rw [if_neg hu] at h
      cases h
      exact ⟨v, hv, hu, rfl⟩
  · rintro ⟨v, hv, hu, rfl⟩
    exact ⟨k, (List.getElem?_eq_some_iff.mp hv).1, v, hv, by rw [if_neg hu]⟩
theorem gc_lv.has {B : Nat} {ls : Array Slot} {n : Nat} {lv : List Value} (h : gc_lv B ls n lv) : lv_has ls n (gc_asc B lv) := by
  refine ⟨h.1, h.2.1, fun q hq => ?_⟩
  obtain ⟨k, w⟩ := q
  obtain ⟨v, h1, h2, rfl⟩ := gc_asc_mem.mp hq
  exact h.2.2 k v h1 h2
theorem gc_tr_cat {B : Nat} (v : Value) : (gc_tr B v).category = v.category := by cases v <;> rfl
theorem gc_clr_at {lv : List Value} {n j : Nat} {w : Value} (h : (gc_clr lv n)[j]? = some w) (hw : w ≠ gc_u) : lv[j]? = some w ∧ ¬ (j + 1 = n ∧ w.category = 2) := by
  cases n with
  | zero => exact ⟨h, fun z => by omega⟩
  | succ i =>
    by_cases hj : j = i
    · subst hj
      unfold gc_clr at h
      cases hv : lv[j]? with
      | none =>
        simp only [hv] at h
        cases h
      | some v =>
        cases v
        case long x =>
          simp only [hv] at h
          have hl : j < lv.length := (List.getElem?_eq_some_iff.mp hv).1
          rw [List.getElem?_set_self hl] at h
          cases h
          exact absurd rfl hw
        case double x =>
          simp only [hv] at h
          have hl : j < lv.length := (List.getElem?_eq_some_iff.mp hv).1
          rw [List.getElem?_set_self hl] at h
          cases h
          exact absurd rfl hw
        all_goals
          simp only [hv] at h
          cases h
          exact ⟨rfl, fun z => by cases z.2⟩
    · refine ⟨?_, fun z => hj (by omega)⟩
      unfold gc_clr at h
      cases hv : lv[i]? with
      | none => simp only [hv] at h; exact h
      | some v =>
        cases v
        case long x =>
          simp only [hv] at h
          rw [List.getElem?_set_ne (Ne.symm hj)] at h
          exact h
        case double x =>
          simp only [hv] at h
          rw [List.getElem?_set_ne (Ne.symm hj)] at h
          exact h
        all_goals
          simp only [hv] at h
          exact h
theorem gc_lv.s1 {B : Nat} {ls ls' : Array Slot} {n k : Nat} {lv : List Value} {v : Value} (h : gc_lv B ls n lv) (h' : lv_has ls' n ((k, gc_tr B v) :: (gc_asc B lv).filter (fun q => !(q.1 == k) && !(q.1 + 1 == k && q.2.category == 2)))) : gc_lv B ls' n (gc_s1 lv k v) := by
  refine ⟨h'.1, h'.2.1, fun j w hj hw => ?_⟩
  unfold gc_s1 at hj
  rw [List.getElem?_set] at hj
  by_cases e : k = j
  · subst e
    rw [if_pos rfl] at hj
    by_cases hl : k < (gc_clr lv k).length
    · rw [if_pos hl] at hj
      cases hj
      exact h'.2.2 _ List.mem_cons_self
    · rw [if_neg hl] at hj
      cases hj
  · rw [if_neg e] at hj
    obtain ⟨h1, h2⟩ := gc_clr_at hj hw
    refine h'.2.2 (j, gc_tr B w) (List.mem_cons_of_mem _ (List.mem_filter.mpr ⟨gc_asc_mem.mpr ⟨w, h1, hw, rfl⟩, ?_⟩))
    have hne : ¬ j = k := fun z => e z.symm
    by_cases hz : j + 1 = k
    · have hc : ¬ w.category = 2 := fun z => h2 ⟨hz, z⟩
      simp [hne, hz, gc_tr_cat, hc]
    · simp [hne, hz]
theorem gc_lv.s2 {B : Nat} {ls ls' : Array Slot} {n k : Nat} {lv : List Value} {v : Value} (h : gc_lv B ls n lv) (h' : lv_has ls' n ((k, gc_tr B v) :: (gc_asc B lv).filter (fun q => !(q.1 == k) && (!(q.1 == k + 1) && !(q.1 + 1 == k && q.2.category == 2))))) : gc_lv B ls' n (gc_s2 lv k v) := by
  refine ⟨h'.1, h'.2.1, fun j w hj hw => ?_⟩
  unfold gc_s2 at hj
  rw [List.getElem?_set] at hj
  by_cases e1 : k + 1 = j
  · rw [if_pos e1] at hj
    split at hj
    · cases hj; exact absurd rfl hw
    · cases hj
  rw [if_neg e1, List.getElem?_set] at hj
  by_cases e : k = j
  · subst e
    rw [if_pos rfl] at hj
    by_cases hl : k < (gc_clr lv k).length
    · rw [if_pos hl] at hj
      cases hj
      exact h'.2.2 _ List.mem_cons_self
    · rw [if_neg hl] at hj
      cases hj
  · rw [if_neg e] at hj
    obtain ⟨h1, h2⟩ := gc_clr_at hj hw
    refine h'.2.2 (j, gc_tr B w) (List.mem_cons_of_mem _ (List.mem_filter.mpr ⟨gc_asc_mem.mpr ⟨w, h1, hw, rfl⟩, ?_⟩))
    have hne : ¬ j = k := fun z => e z.symm
    have hne1 : ¬ j = k + 1 := fun z => e1 z.symm
    by_cases hz : j + 1 = k
    · have hc : ¬ w.category = 2 := fun z => h2 ⟨hz, z⟩
      simp [hne, hne1, hz, gc_tr_cat, hc]
    · simp [hne, hne1, hz]
theorem gc_ent_at {B : Nat} : ∀ (As : List Value) (i j : Nat) (w : Value), (gc_ent As)[j]? = some w → w ≠ gc_u → (i + j, gc_tr B w) ∈ lv_args i (As.map (gc_tr B))
  | [], i, j, w, h, _ => by cases h
  | v :: r, i, j, w, h, hw => by
    have key : ∀ (z : Value) (o : Nat), (o = 1 ∨ o = 2) → (if (gc_tr B v).category = 2 then i + 2 else i + 1) = i + o → ((o = 1 ∧ gc_ent (v :: r) = v :: gc_ent r) ∨ (o = 2 ∧ gc_ent (v :: r) = v :: gc_u :: gc_ent r)) → (i + j, gc_tr B w) ∈ lv_args i ((v :: r).map (gc_tr B)) := by
      intro z o ho hi he
      rw [List.map_cons, lv_args, hi]
      rcases he with ⟨rfl, he⟩ | ⟨rfl, he⟩
      · rw [he] at h
        cases j with
        | zero => cases h; exact List.mem_cons_self
        | succ j =>
          have := gc_ent_at (B := B) r (i + 1) j w h hw
          rw [show i + 1 + j = i + (j + 1) by omega] at this
          exact List.mem_cons_of_mem _ this
      · rw [he] at h
        match j, h with
        | 0, h => cases h; exact List.mem_cons_self
        | 1, h => cases h; exact absurd rfl hw
        | j + 2, h =>
          have := gc_ent_at (B := B) r (i + 2) j w h hw
          rw [show i + 2 + j = i + (j + 2) by omega] at this
          exact List.mem_cons_of_mem _ this
    cases v
    case long x => exact key (.long x) 2 (Or.inr rfl) rfl (Or.inr ⟨rfl, rfl⟩)
    case double x => exact key (.double x) 2 (Or.inr rfl) rfl (Or.inr ⟨rfl, rfl⟩)
    all_goals exact key .null 1 (Or.inl rfl) rfl (Or.inl ⟨rfl, rfl⟩)
theorem gc_ent_len {B : Nat} : ∀ (As : List Value), (lg_sl (As.map (gc_tr B))).length = (gc_ent As).length
  | [] => rfl
  | v :: r => by
    have ih := gc_ent_len (B := B) r
    rw [List.map_cons, show lg_sl (gc_tr B v :: r.map (gc_tr B)) = (if (gc_tr B v).category = 2 then [.val (gc_tr B v), .second] else [.val (gc_tr B v)]) ++ lg_sl (r.map (gc_tr B)) from rfl, List.length_append, ih, gc_tr_cat]
    cases v <;> simp [Value.category, gc_ent] <;> omega
theorem gc_lv_entry {B n : Nat} (As : List Value) (h : (gc_ent As).length ≤ n) : gc_lv B ((lg_sl (As.map (gc_tr B)) ++ List.replicate (n - (lg_sl (As.map (gc_tr B))).length) Slot.unset).toArray) n (gc_pad n (gc_ent As)) := by
  have h1 := lv_entry (As.map (gc_tr B)) (n := n) (by rw [gc_ent_len]; exact h)
  refine ⟨h1.1, h1.2.1, fun k v hk hv => ?_⟩
  unfold gc_pad at hk
  by_cases hl : k < (gc_ent As).length
  · rw [List.getElem?_append_left hl] at hk
    have := gc_ent_at (B := B) As 0 k v hk hv
    rw [Nat.zero_add] at this
    exact h1.2.2 _ this
  · rw [List.getElem?_append_right (by omega), List.getElem?_replicate] at hk
    split at hk
    · cases hk; exact absurd rfl hv
    · cases hk
