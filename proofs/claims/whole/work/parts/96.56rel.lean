/-! What both hold between two calls. -/
abbrev gA : Type := ld_W × List (List Nat × Nat × Nat) × Nat × (Nat × Nat × Nat) × (Nat → Option (Nat × Nat × Nat)) × List (Nat × Nat × Nat) × Nat × Option (Int32 × Int32 × Int32) × Int32
abbrev aW (a : gA) : ld_W := a.1
abbrev aN (a : gA) : List (List Nat × Nat × Nat) := a.2.1
abbrev an (a : gA) : Nat := a.2.2.1
abbrev ah (a : gA) : Nat × Nat × Nat := a.2.2.2.1
abbrev asl (a : gA) : Nat → Option (Nat × Nat × Nat) := a.2.2.2.2.1
abbrev aK (a : gA) : List (Nat × Nat × Nat) := a.2.2.2.2.2.1
abbrev ako (a : gA) : Nat := a.2.2.2.2.2.2.1
abbrev aps (a : gA) : Option (Int32 × Int32 × Int32) := a.2.2.2.2.2.2.2.1
abbrev apl (a : gA) : Int32 := a.2.2.2.2.2.2.2.2
def hok (W : ld_W) (h : Nat × Nat × Nat) : Prop := h.1 < ld_N W ∧ h.2.1 < 2 ^ ld_o W ∧ h.2.2 < 2 ^ ld_b W
def AI (a : gA) : Prop := an a ≤ 2000 ∧ ndN (aN a) ∧ nli (aW a) (aN a) ∧ (∀ k h, asl a k = some h → hok (aW a) h) ∧ (wkI (aW a) (ako a) (aK a) ∧ ako a < 8 ∧ wkB (aW a) (aK a))
def CI (a : gA) (L v : Nat) (s : gc_St) : Prop := cq (aW a) L v (ah a) s ∧ (nmC (aN a) L s ∧ (∀ k, k < 20 → gc_J s 8 k = lN (w32 k)) ∧ gc_dr s = 65 - L) ∧ gc_F s 1 1 = nI (an a) ∧ slC (asl a) s ∧ (wkP 40 (aK a) s ∧ gc_F s 40 4 = nI (ako a) ∧ vK v (ako a) s (aK a)) ∧ psC (aps a) s ∧ gc_F s 0 12 = apl a ∧ (bev s ∧ stl (aW a) s ∧ cnt s)
def RI (a : gA) (lv : Nat) (s : gc_St) : Prop := rq (aW a) lv (ah a) s ∧ (nmR (aN a) lv s ∧ gc_I s 79 lv = nI (16 * lv + (aN a).length) ∧ (∀ k, k < 8 → gc_J s 68 k = lN (w27 (pw k))) ∧ ∀ k, k < 10 → gc_J s 75 k = lN (k27 k)) ∧ gc_F s 67 3 = nI (an a) ∧ slR (asl a) s ∧ (mP 77 111 (aK a) s ∧ gc_F s 67 79 = nI (ako a)) ∧ psR (aps a) s ∧ gc_F s 67 18 = apl a
def TI (n : Nat) (s : gc_St) : Prop := ∀ j, j < n → gc_I s 2 j = gc_I s 69 j ∧ vp_nar .byte (gc_I s 69 j) = gc_I s 69 j
/-- the reference's cells are as they were -/
def kR (s t : gc_St) : Prop := (∀ k, gc_F t 67 k = gc_F s 67 k) ∧ ∀ x, 67 ≤ x → x < 116 → gc_I t x = gc_I s x ∧ gc_J t x = gc_J s x
theorem kR_fr {A : Nat → Nat → Bool} {B : Nat → Bool} {s t : gc_St} (g : fr A B s t) (hA : ∀ q k, A q k = true → q ≠ 67) (hB : ∀ x, B x = true → x < 67) : kR s t :=
  ⟨fun k => fr_F g (bf fun z => hA 67 k z rfl), fun x h1 _ => ⟨fr_I g (bf fun z => by have := hB x z; omega), fr_J g (bf fun z => by have := hB x z; omega)⟩⟩
theorem kR_cx {A : Nat → Nat → Bool} {B : Nat → Bool} {kc : Nat} {s t : gc_St} (g : cx A B kc s t) (hA : ∀ q k, A q k = true → q ≠ 67) (hB : ∀ x, B x = true → x < 67) : kR s t :=
  ⟨fun k => g.1 67 k (bf fun z => hA 67 k z rfl), fun x h1 h2 => ⟨g.2.1 x h2 (by omega) (bf fun z => by have := hB x z; omega), g.2.2.1 x h2 (bf fun z => by have := hB x z; omega)⟩⟩
theorem kR_cy {kc : Nat} {s t : gc_St} (g : cy kc s t) : kR s t :=
  ⟨fun k => g.1 67 k (by decide) (by decide), fun x h1 h2 => ⟨g.2.1 x h2 (by omega) (by omega) (by omega), g.2.2.1 x h2 (by omega) (by omega)⟩⟩
theorem rq_kR {W : ld_W} {lv : Nat} {h : Nat × Nat × Nat} {s t : gc_St} (hq : rq W lv h s) (g : kR s t) : rq W lv h t := by
  obtain ⟨h1, ⟨x, x1, x2⟩, ⟨y1, y2, y3⟩, h4⟩ := hq
  have hI : ∀ x, 67 ≤ x → x < 116 → gc_I t x = gc_I s x := fun x a b => (g.2 x a b).1
  refine ⟨rf_law_of h1 (g.1 19) (fun a ha => hI a ?_ ?_), ⟨x, (g.1 53).trans x1, ?_⟩, ⟨(g.1 49).trans y1, (g.1 50).trans y2, (g.1 51).trans y3⟩, h4⟩
  · unfold rfB at ha
    simp only [Bool.and_eq_true, Nat.ble_eq] at ha
    omega
  · unfold rfB at ha
    simp only [Bool.and_eq_true, Nat.ble_eq] at ha
    omega
  · rcases x2 with z | ⟨o, o1, o2, o3⟩
    · exact Or.inl z
    · refine Or.inr ⟨o, o1, o2, ?_⟩
      unfold rtt at o3 ⊢
      rw [hI 100 (by decide) (by decide)]
      exact o3
theorem RI_kR {a : gA} {lv : Nat} {s t : gc_St} (h : RI a lv s) (g : kR s t) : RI a lv t := by
  obtain ⟨h1, ⟨h2, h3, h4, h5⟩, h6, h7, ⟨h8, h9⟩, h10, h11⟩ := h
  have hI : ∀ x, 67 ≤ x → x < 116 → gc_I t x = gc_I s x := fun x a b => (g.2 x a b).1
  have hJ : ∀ x, 67 ≤ x → x < 116 → gc_J t x = gc_J s x := fun x a b => (g.2 x a b).2
  refine ⟨rq_kR h1 g, ⟨nmR_of h2 (hJ 76 (by decide) (by decide)) (hI 77 (by decide) (by decide)) (hI 78 (by decide) (by decide)), by rw [hI 79 (by decide) (by decide)]; exact h3, fun k hk => by rw [hJ 68 (by decide) (by decide)]; exact h4 k hk, fun k hk => by rw [hJ 75 (by decide) (by decide)]; exact h5 k hk⟩, (g.1 3).trans h6, ?_, ⟨⟨(g.1 77).trans h8.1, ?_⟩, (g.1 79).trans h9⟩, ?_, (g.1 18).trans h11⟩
  · unfold slR at h7 ⊢
    rw [hI 112 (by decide) (by decide), hI 113 (by decide) (by decide), hI 114 (by decide) (by decide), hI 115 (by decide) (by decide)]
    exact h7
  · rw [hI 111 (by decide) (by decide)]
    exact h8.2
  · unfold psR at h10 ⊢
    rw [g.1 68, g.1 69, g.1 70, g.1 71]
    exact h10
/-- only the reference's cells changed -/
def AR (q _ : Nat) : Bool := Nat.beq q 67
def BR (x : Nat) : Bool := Nat.ble 67 x && Nat.ble x 115
theorem AR_iff {q k : Nat} : AR q k = true ↔ q = 67 := by
  unfold AR
  rw [Nat.beq_eq]
theorem BR_iff {x : Nat} : BR x = true ↔ 67 ≤ x ∧ x ≤ 115 := by
  unfold BR
  rw [Bool.and_eq_true, Nat.ble_eq, Nat.ble_eq]
theorem CI_kC {a : gA} {L v : Nat} {s t : gc_St} (h : CI a L v s) (g : fr AR BR s t) : CI a L v t := by
  obtain ⟨h1, ⟨h2, h3, h4⟩, h5, h6, ⟨h7, h8, h9⟩, h10, h11, h12, h13, h14⟩ := h
  have hF : ∀ q k, q ≠ 67 → gc_F t q k = gc_F s q k := fun q k hq => fr_F g (bf fun z => hq (AR_iff.mp z))
  have hI : ∀ x, x < 67 → gc_I t x = gc_I s x := fun x hx => fr_I g (bf fun z => by have := BR_iff.mp z; omega)
  have hJ : ∀ x, x < 67 → gc_J t x = gc_J s x := fun x hx => fr_J g (bf fun z => by have := BR_iff.mp z; omega)
  have hL := h1.1.1.1
  have hL67 : L ≠ 67 := by rcases hL with e | e <;> omega
  have hbe : gc_be t = gc_be s := fr_be g
  refine ⟨⟨mvS_fr h1.1 g ⟨rfl, fun k => ⟨rfl, rfl⟩⟩ (fun x hx => bf fun z => by have := BR_iff.mp z; omega), h1.2.1, ⟨(hF 49 0 (by decide)).trans h1.2.2.1.1, (hF 49 1 (by decide)).trans h1.2.2.1.2.1, (hF 49 2 (by decide)).trans h1.2.2.1.2.2⟩, h1.2.2.2⟩, ⟨nmC_of h2 (hF L 6 hL67) (hJ _ (by have := cl_rS_lt hL 17; omega)) (hI _ (by have := cl_rS_lt hL 18; omega)), fun k hk => by rw [hJ 8 (by decide)]; exact h3 k hk, (fr_dr g).trans h4⟩, (hF 1 1 (by decide)).trans h5, ?_, ⟨wkP_fr h7 g rfl ⟨rfl, rfl, rfl⟩, (hF 40 4 (by decide)).trans h8, ?_⟩, ?_, (hF 0 12 (by decide)).trans h11, ?_, ?_, ?_⟩
  · intro k hk
    have e : ∀ j, gc_F t (51 + k) j = gc_F s (51 + k) j := fun j => hF _ j (by omega)
    rw [e 3, e 0, e 1, e 2]
    exact h6 k hk
  · unfold vK at h9 ⊢
    rw [hI 24 (by decide)]
    exact h9
  · unfold psC at h10 ⊢
    rw [hF 28 16 (by decide), hF 28 17 (by decide), hF 28 18 (by decide), hF 28 19 (by decide)]
    exact h10
  · unfold bev at h12 ⊢
    rw [hbe, fr_gk g]
    exact h12
  · unfold stl stA ptd at h13 ⊢
    rw [hF 45 3 (by decide), hF 45 0 (by decide), hF 45 1 (by decide), hF 45 2 (by decide), hF 44 3 (by decide), hF 44 4 (by decide), hF 44 5 (by decide), hI 47 (by decide), hI 48 (by decide)]
    exact h13
  · unfold cnt at h14 ⊢
    rw [fr_n g, fr_Y g, hbe]
    exact h14
/-- a query of the class: what it may change holds nothing between two calls -/
theorem CI_cx {a : gA} {L v kc : Nat} {A : Nat → Nat → Bool} {B : Nat → Bool} {s t : gc_St} (hAI : AI a) (h : CI a L v s) (ht : cq (aW a) L v (ah a) t) (g : cx A B kc s t) (hA : ∀ q k, A q k = true → q = 32 ∨ q = 36) (hB : ∀ x, B x = true → 33 ≤ x ∧ x ≤ 39) : CI a L v t := by
  obtain ⟨h1, ⟨h2, h3, h4⟩, h5, h6, ⟨h7, h8, h9⟩, h10, h11, h12, h13, h14⟩ := h
  obtain ⟨g1, g2, g3, g4, ⟨g5, g6, g7, g8, g9⟩, g10, g11, g12, g13⟩ := g
  have hF : ∀ q k, q ≠ 32 → q ≠ 36 → gc_F t q k = gc_F s q k := fun q k q1 q2 => g1 q k (bf fun z => by have := hA q k z; omega)
  have hI : ∀ x, x < 116 → x ≠ 24 → ¬ (33 ≤ x ∧ x ≤ 39) → gc_I t x = gc_I s x := fun x a1 a2 a3 => g2 x a1 a2 (bf fun z => a3 (hB x z))
  have hJ : ∀ x, x < 116 → ¬ (33 ≤ x ∧ x ≤ 39) → gc_J t x = gc_J s x := fun x a1 a3 => g3 x a1 (bf fun z => a3 (hB x z))
  have hL := h1.1.1.1
  have hr : (gc_rS L 17 < 116 ∧ ¬ (33 ≤ gc_rS L 17 ∧ gc_rS L 17 ≤ 39)) ∧ (gc_rS L 18 < 116 ∧ gc_rS L 18 ≠ 24 ∧ ¬ (33 ≤ gc_rS L 18 ∧ gc_rS L 18 ≤ 39)) := by
    rcases hL with e | e <;> rw [e] <;> decide
  have hL32 : L ≠ 32 ∧ L ≠ 36 := by rcases hL with e | e <;> omega
  refine ⟨ht, ⟨nmC_of h2 (hF L 6 hL32.1 hL32.2) (hJ _ hr.1.1 hr.1.2) (hI _ hr.2.1 hr.2.2.1 hr.2.2.2), fun k hk => by rw [hJ 8 (by decide) (by decide)]; exact h3 k hk, g7.trans h4⟩, (hF 1 1 (by decide) (by decide)).trans h5, ?_, ⟨⟨(hF 40 5 (by decide) (by decide)).trans h7.1, ?_⟩, (hF 40 4 (by decide) (by decide)).trans h8, ?_⟩, ?_, (hF 0 12 (by decide) (by decide)).trans h11, ?_, ?_, ?_⟩
  · intro k hk
    have e : ∀ j, gc_F t (51 + k) j = gc_F s (51 + k) j := fun j => hF _ j (by omega) (by omega)
    rw [e 3, e 0, e 1, e 2]
    exact h6 k hk
  · rw [hI 41 (by decide) (by decide) (by decide), hI 42 (by decide) (by decide) (by decide), hI 43 (by decide) (by decide) (by decide)]
    exact h7.2
  · intro l hl
    obtain ⟨c1, _, c3, _⟩ := wkI_mem hAI.2.2.2.2.1 hl
    have hp24 := h1.1.1.2.2.2.1.1.2.2.2.2
    have hlt : cl_num (ako a) l.1 l.2.2 < 1536 := cl_num_lt hAI.2.2.2.2.2.1 (by omega) c3
    exact g11 _ (nI v) hlt h1.1.2.1 (h9 l hl)
  · unfold psC at h10 ⊢
    rw [hF 28 16 (by decide) (by decide), hF 28 17 (by decide) (by decide), hF 28 18 (by decide) (by decide), hF 28 19 (by decide) (by decide)]
    exact h10
  · have hbl := h1.1.2.2.2.1.1.2
    unfold bev at h12 ⊢
    rw [g9]
    rcases h12 with z | ⟨z1, z2⟩
    · exact Or.inl z
    · refine Or.inr ⟨z1, ?_⟩
      unfold gc_gk at z2 ⊢
      rw [Nat.ble_eq.mpr z1] at z2 ⊢
      have e1 : Nat.blt (gc_be s) (116 + gc_n s) = true := Nat.ble_eq.mpr hbl
      have e2 : Nat.blt (gc_be s) (116 + gc_n t) = true := Nat.ble_eq.mpr (by show gc_be s + 1 ≤ _; omega)
      rw [e1] at z2
      rw [e2]
      show (0, gc_D t (gc_be s)) = (0, 14336)
      rw [g10 _ hbl]
      exact z2
  · unfold stl stA ptd at h13 ⊢
    rw [hF 45 3 (by decide) (by decide), hF 45 0 (by decide) (by decide), hF 45 1 (by decide) (by decide), hF 45 2 (by decide) (by decide), hF 44 3 (by decide) (by decide), hF 44 4 (by decide) (by decide), hF 44 5 (by decide) (by decide), hI 47 (by decide) (by decide) (by decide), hI 48 (by decide) (by decide) (by decide)]
    exact h13
  · unfold cnt at h14 ⊢
    rw [g9]
    omega
