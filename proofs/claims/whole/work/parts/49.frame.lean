/-! Frames: what a run may have changed. -/
def fr (A : Nat → Nat → Bool) (B : Nat → Bool) (s t : gc_St) : Prop :=
  (∀ q k, A q k = false → gc_F t q k = gc_F s q k) ∧ (∀ a, B a = false → gc_I t a = gc_I s a ∧ gc_J t a = gc_J s a) ∧ (A 3 9 = false → gc_ln t = gc_ln s) ∧ t.2.2.2.1 = s.2.2.2.1 ∧ t.2.2.2.2.2 = s.2.2.2.2.2
theorem fr_F {A : Nat → Nat → Bool} {B : Nat → Bool} {s t : gc_St} (h : fr A B s t) {q k : Nat} (e : A q k = false) : gc_F t q k = gc_F s q k := h.1 q k e
theorem fr_I {A : Nat → Nat → Bool} {B : Nat → Bool} {s t : gc_St} (h : fr A B s t) {a : Nat} (e : B a = false) : gc_I t a = gc_I s a := (h.2.1 a e).1
theorem fr_J {A : Nat → Nat → Bool} {B : Nat → Bool} {s t : gc_St} (h : fr A B s t) {a : Nat} (e : B a = false) : gc_J t a = gc_J s a := (h.2.1 a e).2
theorem fr_ln {A : Nat → Nat → Bool} {B : Nat → Bool} {s t : gc_St} (h : fr A B s t) (e : A 3 9 = false) : gc_ln t = gc_ln s := h.2.2.1 e
theorem fr_Y {A : Nat → Nat → Bool} {B : Nat → Bool} {s t : gc_St} (h : fr A B s t) : gc_Y t = gc_Y s := h.2.2.2.1
theorem fr_lw {A : Nat → Nat → Bool} {B : Nat → Bool} {s t : gc_St} (h : fr A B s t) : gc_lw t = gc_lw s := congrArg (fun x => x.1) h.2.2.2.2
theorem fr_dr {A : Nat → Nat → Bool} {B : Nat → Bool} {s t : gc_St} (h : fr A B s t) : gc_dr t = gc_dr s := congrArg (fun x => x.2.1) h.2.2.2.2
theorem fr_rl {A : Nat → Nat → Bool} {B : Nat → Bool} {s t : gc_St} (h : fr A B s t) : gc_rl t = gc_rl s := congrArg (fun x => x.2.2.1) h.2.2.2.2
theorem fr_be {A : Nat → Nat → Bool} {B : Nat → Bool} {s t : gc_St} (h : fr A B s t) : gc_be t = gc_be s := congrArg (fun x => x.2.2.2.1) h.2.2.2.2
theorem fr_n {A : Nat → Nat → Bool} {B : Nat → Bool} {s t : gc_St} (h : fr A B s t) : gc_n t = gc_n s := congrArg (fun x => x.2.2.2.2.1) h.2.2.2.2
theorem fr_D {A : Nat → Nat → Bool} {B : Nat → Bool} {s t : gc_St} (h : fr A B s t) : gc_D t = gc_D s := congrArg (fun x => x.2.2.2.2.2) h.2.2.2.2
theorem fr_gk {A : Nat → Nat → Bool} {B : Nat → Bool} {s t : gc_St} (h : fr A B s t) (q : Nat) : gc_gk t q = gc_gk s q := by
  unfold gc_gk
  rw [fr_n h, fr_D h]
theorem fr_refl {A : Nat → Nat → Bool} {B : Nat → Bool} (s : gc_St) : fr A B s s := ⟨fun _ _ _ => rfl, fun _ _ => ⟨rfl, rfl⟩, fun _ => rfl, rfl, rfl⟩
theorem fr_trans {A : Nat → Nat → Bool} {B : Nat → Bool} {s t u : gc_St} (h : fr A B s t) (g : fr A B t u) : fr A B s u :=
  ⟨fun q k e => (g.1 q k e).trans (h.1 q k e), fun a e => ⟨(g.2.1 a e).1.trans (h.2.1 a e).1, (g.2.1 a e).2.trans (h.2.1 a e).2⟩, fun e => (g.2.2.1 e).trans (h.2.2.1 e), g.2.2.2.1.trans h.2.2.2.1, g.2.2.2.2.trans h.2.2.2.2⟩
theorem fr_mono {A A' : Nat → Nat → Bool} {B B' : Nat → Bool} {s t : gc_St} (hA : ∀ q k, A' q k = false → A q k = false) (hB : ∀ a, B' a = false → B a = false) (h : fr A B s t) : fr A' B' s t :=
  ⟨fun q k e => h.1 q k (hA q k e), fun a e => h.2.1 a (hB a e), fun e => h.2.2.1 (hA 3 9 e), h.2.2.2.1, h.2.2.2.2⟩
theorem fr_wF {A : Nat → Nat → Bool} {B : Nat → Bool} {s t : gc_St} {q k : Nat} {x : Int32} (e : A q k = true) (h : fr A B s t) : fr A B s (gc_wF t q k x) := by
  refine ⟨fun q2 k2 e2 => ?_, h.2.1, h.2.2.1, h.2.2.2⟩
  rw [rw_F_wF]
  by_cases e3 : q2 = q
  · subst e3
    by_cases e4 : k2 = k
    · subst e4
      rw [e] at e2
      exact absurd e2 (by decide)
    · rw [if_pos rfl, if_neg e4]
      exact h.1 q2 k2 e2
  · rw [if_neg e3]
    exact h.1 q2 k2 e2
theorem fr_wR {A : Nat → Nat → Bool} {B : Nat → Bool} {s t : gc_St} {a : Nat} {f : Nat → Int32} (e : B a = true) (h : fr A B s t) : fr A B s (gc_wR t a f) := by
  refine ⟨h.1, fun a2 e2 => ⟨?_, (h.2.1 a2 e2).2⟩, h.2.2.1, h.2.2.2⟩
  refine Eq.trans ?_ (h.2.1 a2 e2).1
  funext j
  rw [rw_I_wR]
  by_cases e3 : a2 = a
  · subst e3
    rw [e] at e2
    exact absurd e2 (by decide)
  · rw [if_neg e3]
theorem fr_wI {A : Nat → Nat → Bool} {B : Nat → Bool} {s t : gc_St} {a i : Nat} {x : Int32} (e : B a = true) (h : fr A B s t) : fr A B s (gc_wI t a i x) := by
  refine ⟨h.1, fun a2 e2 => ⟨?_, (h.2.1 a2 e2).2⟩, h.2.2.1, h.2.2.2⟩
  refine Eq.trans ?_ (h.2.1 a2 e2).1
  funext j
  rw [rw_I_wI]
  by_cases e3 : a2 = a
  · subst e3
    rw [e] at e2
    exact absurd e2 (by decide)
  · rw [if_neg e3]
theorem fr_wJ {A : Nat → Nat → Bool} {B : Nat → Bool} {s t : gc_St} {a i : Nat} {x : Int64} (e : B a = true) (h : fr A B s t) : fr A B s (gc_wJ t a i x) := by
  refine ⟨h.1, fun a2 e2 => ⟨(h.2.1 a2 e2).1, ?_⟩, h.2.2.1, h.2.2.2⟩
  refine Eq.trans ?_ (h.2.1 a2 e2).2
  funext j
  rw [rw_J_wJ]
  by_cases e3 : a2 = a
  · subst e3
    rw [e] at e2
    exact absurd e2 (by decide)
  · rw [if_neg e3]
theorem fr_wln {A : Nat → Nat → Bool} {B : Nat → Bool} {s t : gc_St} {x : Int64} (e : A 3 9 = true) (h : fr A B s t) : fr A B s (gc_wln t x) :=
  ⟨h.1, h.2.1, fun e2 => absurd (e2.symm.trans e) (by decide), h.2.2.2⟩
/-- one field, one place of a row -/
theorem F_eq (s : gc_St) (q k : Nat) (x : Int32) : gc_F (gc_wF s q k x) q k = x := by rw [rw_F_wF, if_pos rfl, if_pos rfl]
theorem F_ne (s : gc_St) {q k q2 k2 : Nat} (x : Int32) (h : q2 ≠ q ∨ k2 ≠ k) : gc_F (gc_wF s q k x) q2 k2 = gc_F s q2 k2 := by
  rw [rw_F_wF]
  by_cases e : q2 = q
  · rw [if_pos e, if_neg (h.resolve_left (fun z => z e))]
  · rw [if_neg e]
theorem I_eq (s : gc_St) (a i : Nat) (x : Int32) : gc_I (gc_wI s a i x) a i = x := by rw [rw_I_wI, if_pos rfl, if_pos rfl]
theorem I_ne (s : gc_St) {a i a2 i2 : Nat} (x : Int32) (h : a2 ≠ a ∨ i2 ≠ i) : gc_I (gc_wI s a i x) a2 i2 = gc_I s a2 i2 := by
  rw [rw_I_wI]
  by_cases e : a2 = a
  · rw [if_pos e, if_neg (h.resolve_left (fun z => z e))]
  · rw [if_neg e]
theorem I_na (s : gc_St) {a i a2 : Nat} (x : Int32) (h : a2 ≠ a) : gc_I (gc_wI s a i x) a2 = gc_I s a2 := by
  funext j
  rw [rw_I_wI, if_neg h]
theorem J_eq (s : gc_St) (a i : Nat) (x : Int64) : gc_J (gc_wJ s a i x) a i = x := by rw [rw_J_wJ, if_pos rfl, if_pos rfl]
theorem J_ne (s : gc_St) {a i a2 i2 : Nat} (x : Int64) (h : a2 ≠ a ∨ i2 ≠ i) : gc_J (gc_wJ s a i x) a2 i2 = gc_J s a2 i2 := by
  rw [rw_J_wJ]
  by_cases e : a2 = a
  · rw [if_pos e, if_neg (h.resolve_left (fun z => z e))]
  · rw [if_neg e]
theorem J_na (s : gc_St) {a i a2 : Nat} (x : Int64) (h : a2 ≠ a) : gc_J (gc_wJ s a i x) a2 = gc_J s a2 := by
  funext j
  rw [rw_J_wJ, if_neg h]
theorem wF_wF (s : gc_St) (q k : Nat) (x y : Int32) : gc_wF (gc_wF s q k x) q k y = gc_wF s q k y := by
  refine gc_ext ?_ rfl rfl
  funext q2 k2
  rw [rw_F_wF, rw_F_wF, rw_F_wF]
  by_cases e : q2 = q
  · rw [if_pos e, if_pos e, if_pos e]
    by_cases e2 : k2 = k
    · rw [if_pos e2, if_pos e2]
    · rw [if_neg e2, if_neg e2, if_neg e2]
  · rw [if_neg e, if_neg e, if_neg e]
theorem wF_id {s : gc_St} {q k : Nat} {x : Int32} (h : gc_F s q k = x) : gc_wF s q k x = s := by
  refine gc_ext ?_ rfl rfl
  funext q2 k2
  rw [rw_F_wF]
  by_cases e : q2 = q
  · subst e
    by_cases e2 : k2 = k
    · subst e2; rw [if_pos rfl, if_pos rfl, h]
    · rw [if_pos rfl, if_neg e2]
  · rw [if_neg e]
