/-! A POINT more, by the reference; its stacks. -/
def stk (S : List (Int32 × Int32)) (R : List Nat) (s : gc_St) : Prop := (gc_F s 67 46 = nI S.length ∧ ∀ k e, S[k]? = some e → gc_I s 97 k = e.1 ∧ gc_I s 98 k = e.2) ∧ (gc_F s 67 48 = nI R.length ∧ ∀ k q, R[k]? = some q → gc_I s 99 k = nI q)
theorem stk_fr {A : Nat → Nat → Bool} {B : Nat → Bool} {S : List (Int32 × Int32)} {R : List Nat} {s t : gc_St} (h : stk S R s) (g : fr A B s t) (h46 : A 67 46 = false) (h48 : A 67 48 = false) (hB : ∀ a, 97 ≤ a → a ≤ 99 → B a = false) : stk S R t := by
  unfold stk at h ⊢
  rw [fr_F g h46, fr_F g h48, fr_I g (hB 97 (by decide) (by decide)), fr_I g (hB 98 (by decide) (by decide)), fr_I g (hB 99 (by decide) (by decide))]
  exact h
theorem kp_wI' {sd : Nat} {s0 s : gc_St} {a k' j : Nat} {x : Int32} (hs : sd < 2) (h : kpR (1 - sd) s0 s) (hk : k' < wid a) (hj : j = wid a * sd + k') : kpR (1 - sd) s0 (gc_wI s a j x) := by
  rw [hj]
  exact kp_wI hs h hk
theorem rpw_of {b : Nat → Nat} {n T i : Nat} {s t : gc_St} (h : rpw b n T i s) (h1 : gc_F t 67 12 = gc_F s 67 12) (h2 : gc_I t 71 = gc_I s 71) (h3 : gc_I t 72 = gc_I s 72) (h4 : gc_I t 73 = gc_I s 73) (h5 : gc_J t 74 = gc_J s 74) : rpw b n T i t := by
  unfold rpw at h ⊢
  rw [h1, h2, h3, h4, h5]
  exact h
section Zv
variable {s s0 t : gc_St} {sd m o : Nat} {nr : List (List Nat × Nat × Nat)} {W W' : ld_W} {r : Option (Nat × Nat)}
/-- the reference's law changed, nothing else -/
theorem zS_up {o' : Nat} (h : zS sd m nr s0 W r o s) (g : fr AzR BzR s t) (hk : kpR (1 - sd) s0 t) (hF : ∀ k, k ≠ 13 → k ≠ 46 → k ≠ 48 → gc_F t 67 k = gc_F s 67 k) (h13 : gc_F t 67 13 = nI o') (hn1 : gc_J t 76 = gc_J s 76) (hn2 : gc_I t 77 = gc_I s 77) (hn3 : gc_I t 78 = gc_I s 78) (hc : cnR W' sd t) (hl : r = none → lwR W' sd t) : zS sd m nr s0 W' r o' t := by
  obtain ⟨⟨h1, h0⟩, ⟨h2, h3⟩, ⟨h4, h5, h6⟩, h7, h8, ⟨nx, h9, h10, h11, h12, h14⟩, g13⟩ := h
  exact ⟨⟨fr_trans h1 g, hk⟩, ⟨(hF 14 (by decide) (by decide) (by decide)).trans h2, (hF 43 (by decide) (by decide) (by decide)).trans h3⟩, ⟨h4, (hF 20 (by decide) (by decide) (by decide)).trans h5, h13⟩, mwr_of h7 (hF 16 (by decide) (by decide) (by decide)) (hF 17 (by decide) (by decide) (by decide)), hc, ⟨nx, nmR_of h9 hn1 hn2 hn3, (hF 21 (by decide) (by decide) (by decide)).trans h10, h11, h12, h14⟩, hl⟩
end Zv
section Ye
variable {P : gc_Pr} {d : Nat} {s s0 : gc_St} {Q : gc_TQ} {b : Nat → Nat} {n T sd m i o : Nat} {nr : List (List Nat × Nat × Nat)} {W : ld_W} {r : Option (Nat × Nat)} {S : List (Int32 × Int32)} {R : List Nat}
theorem y_failAt (hP : gc_Cl P) (hm : gc_Mo P) {x j : Nat} (hx : 1 ≤ x ∧ x < 9) (h : zR b n T sd m nr s0 i W r o s) (hj : j < T) (hQ : ∀ t, zFR sd s0 x (tk_st b n j) t → Q none t) : gc_T P d 0 0 192 0 [.ref 67, .int (nI x), .int (nI j)] [] s Q := by
  have hT := h.1.1.1
  refine b_X11_failAt_0 hP hm ?_
  rw [h.2.2.1.1, nI_clamp (by omega), (h.1.2.1 j hj).2.1]
  have g : fr Amf B0 s (gc_wF (gc_wF s 67 14 (nI x)) 67 15 (nI (tk_st b n j))) := fr_wF rfl (fr_wF rfl (fr_refl s))
  refine ⟨fun _ => ⟨vp_in_nI (by omega) (by decide), hQ _ ⟨y_fr h.2 g, ⟨?_, F_eq _ _ _ _⟩, hx, y_12 h.1 g⟩⟩, fun y => absurd (by decide) y⟩
  rw [F_ne _ _ (Or.inr (by decide)), F_eq]
theorem y_ends (hP : gc_Cl P) (hm : gc_Mo P) (hd : 1 ≤ d) {kd fi se lo j : Nat} {l2 l3 : Int32} (hp24 : ld_p W ≤ 24) (h : zR b n T sd m nr s0 i W r o s) (hs : stk S R s) (hR : R.length < 420) (hj : j < T) (hl2 : r = none → l2 = kI1 kd fi) (hl3 : r = none → l3 = kI2 kd se)
    (h1 : ∀ t, ld_p W < 24 → zR b n T sd m nr s0 i (np W kd fi se lo) r o t → stk S (R ++ [ld_p W]) t → Q none t) (h2 : ∀ t, ld_p W = 24 → zFR sd s0 2 (tk_st b n j) t → Q none t) : gc_T P d 0 0 205 0 [.ref 67, .int (nI kd), .int l2, .int l3, .int (nI j), gc_u] [] s Q := by
  have h' := h
  obtain ⟨c1, ⟨g1, g0⟩, ⟨g2, g3⟩, ⟨g4, g5, g6⟩, g7, g8, ⟨nx, g9, g10, g11, g12, g14⟩, g13⟩ := h'
  refine b_X11_ends_0 hP hm ?_
  rw [g5, nI_clamp (by omega), g8.2.2.2.2]
  refine ⟨vp_in_nI g4 (by decide), fun z => ?_, fun z => ⟨hd, y_failAt hP hm (x := 2) (by decide) h hj fun t t1 => ?_⟩⟩
  · have hlt : ld_p W < 24 := by
      refine Decidable.byContradiction fun y => z ?_
      rw [show ld_p W = 24 by omega]
      rfl
    refine b_X11_ends_21 hP hm ?_
    rw [g2, g5, nI_clamp (by omega), g8.2.2.2.2, hs.2.1, st_lit 24, pk_mul, nI_add, nI_clamp (by omega), nI_clamp (by omega), nI_1, nI_1]
    refine ⟨fun _ => ⟨vp_in_nI g4 (by decide), vp_in_nI (by omega) (by decide), vp_in_nI (by omega) (by decide), vp_in_nI (by omega) (by decide), vp_in_nI g4 (by decide), vp_in_nI hR (by decide), vp_in_nI g4 (by decide), vp_in_nI g4 (by decide), ?_⟩, fun y => absurd (by decide) y⟩
    have hI : ∀ t, t = gc_wI (gc_wF (gc_wI (gc_wI (gc_wI (gc_wI s 94 (24 * sd + ld_p W) (nI kd)) 95 (24 * sd + ld_p W) l2) 96 (24 * sd + ld_p W) l3) 99 R.length (nI (ld_p W))) 67 48 (nI (R.length + 1))) 93 sd (nI (ld_p W + 1)) → fr AzR BzR s t ∧ kpR (1 - sd) s0 t ∧ (∀ q k, (q ≠ 67 ∨ k ≠ 48) → gc_F t q k = gc_F s q k) ∧ gc_F t 67 48 = nI (R.length + 1) ∧ (∀ a j, (a = 94 ∨ a = 95 ∨ a = 96 → j ≠ 24 * sd + ld_p W) → (a = 99 → j ≠ R.length) → (a = 93 → j ≠ sd) → gc_I t a j = gc_I s a j) ∧ (gc_I t 94 (24 * sd + ld_p W) = nI kd ∧ gc_I t 95 (24 * sd + ld_p W) = l2 ∧ gc_I t 96 (24 * sd + ld_p W) = l3 ∧ gc_I t 99 R.length = nI (ld_p W) ∧ gc_I t 93 sd = nI (ld_p W + 1)) ∧ gc_J t = gc_J s := by
      intro t e
      rw [e]
      refine ⟨fr_wI rfl (fr_wF rfl (fr_wI rfl (fr_wI rfl (fr_wI rfl (fr_wI rfl (fr_refl s)))))), ?_, fun q k y => ?_, F_eq (gc_wI (gc_wI (gc_wI (gc_wI s 94 (24 * sd + ld_p W) (nI kd)) 95 (24 * sd + ld_p W) l2) 96 (24 * sd + ld_p W) l3) 99 R.length (nI (ld_p W))) 67 48 _, fun a j y1 y2 y3 => ?_, ⟨?_, ?_, ?_, ?_, ?_⟩, rfl⟩
      · refine kp_wI' g4 (kp_wF (kp_wI0 (kp_wI' g4 (kp_wI' g4 (kp_wI' g4 g0 (k' := ld_p W) hlt rfl) (k' := ld_p W) hlt rfl) (k' := ld_p W) hlt rfl) rfl)) (k' := 0) (by decide) ?_
        show sd = 1 * sd + 0
        omega
      · show gc_F (gc_wF (gc_wI (gc_wI (gc_wI (gc_wI s 94 (24 * sd + ld_p W) (nI kd)) 95 (24 * sd + ld_p W) l2) 96 (24 * sd + ld_p W) l3) 99 R.length (nI (ld_p W))) 67 48 (nI (R.length + 1))) q k = gc_F s q k
        rw [F_ne _ _ y]
        rfl
      · rw [I_ne _ _ (by by_cases u : a = 93; exact Or.inr (y3 u); exact Or.inl u)]
        show gc_I (gc_wI (gc_wI (gc_wI (gc_wI s 94 (24 * sd + ld_p W) (nI kd)) 95 (24 * sd + ld_p W) l2) 96 (24 * sd + ld_p W) l3) 99 R.length (nI (ld_p W))) a j = gc_I s a j
        rw [I_ne _ _ (by by_cases u : a = 99; exact Or.inr (y2 u); exact Or.inl u), I_ne _ _ (by by_cases u : a = 96; exact Or.inr (y1 (by omega)); exact Or.inl u), I_ne _ _ (by by_cases u : a = 95; exact Or.inr (y1 (by omega)); exact Or.inl u), I_ne _ _ (by by_cases u : a = 94; exact Or.inr (y1 (by omega)); exact Or.inl u)]
      · rw [I_ne _ _ (Or.inl (by decide))]
        show gc_I (gc_wI (gc_wI (gc_wI (gc_wI s 94 (24 * sd + ld_p W) (nI kd)) 95 (24 * sd + ld_p W) l2) 96 (24 * sd + ld_p W) l3) 99 R.length (nI (ld_p W))) 94 _ = _
        rw [I_ne _ _ (Or.inl (by decide)), I_ne _ _ (Or.inl (by decide)), I_ne _ _ (Or.inl (by decide)), I_eq]
      · rw [I_ne _ _ (Or.inl (by decide))]
        show gc_I (gc_wI (gc_wI (gc_wI (gc_wI s 94 (24 * sd + ld_p W) (nI kd)) 95 (24 * sd + ld_p W) l2) 96 (24 * sd + ld_p W) l3) 99 R.length (nI (ld_p W))) 95 _ = _
        rw [I_ne _ _ (Or.inl (by decide)), I_ne _ _ (Or.inl (by decide)), I_eq]
      · rw [I_ne _ _ (Or.inl (by decide))]
        show gc_I (gc_wI (gc_wI (gc_wI (gc_wI s 94 (24 * sd + ld_p W) (nI kd)) 95 (24 * sd + ld_p W) l2) 96 (24 * sd + ld_p W) l3) 99 R.length (nI (ld_p W))) 96 _ = _
        rw [I_ne _ _ (Or.inl (by decide)), I_eq]
      · rw [I_ne _ _ (Or.inl (by decide))]
        show gc_I (gc_wI (gc_wI (gc_wI (gc_wI s 94 (24 * sd + ld_p W) (nI kd)) 95 (24 * sd + ld_p W) l2) 96 (24 * sd + ld_p W) l3) 99 R.length (nI (ld_p W))) 99 _ = _
        rw [I_eq]
      · rw [I_eq]
    have hI0 := hI _ rfl
    revert hI0
    generalize gc_wI (gc_wF (gc_wI (gc_wI (gc_wI (gc_wI s 94 (24 * sd + ld_p W) (nI kd)) 95 (24 * sd + ld_p W) l2) 96 (24 * sd + ld_p W) l3) 99 R.length (nI (ld_p W))) 67 48 (nI (R.length + 1))) 93 sd (nI (ld_p W + 1)) = t
    intro ⟨k1, k2, k3, k4, k5, ⟨k6, k7, k8, k9, k10⟩, k11⟩
    have hIa : ∀ a, a < 93 → gc_I t a = gc_I s a := fun a ha => funext fun j => k5 a j (by omega) (by omega) (by omega)
    refine h1 t hlt ⟨rpw_of c1 (k3 67 12 (Or.inr (by decide))) (hIa 71 (by decide)) (hIa 72 (by decide)) (hIa 73 (by decide)) (by rw [k11]), zS_up h.2 k1 k2 (fun k _ _ e48 => k3 67 k (Or.inr e48)) ((k3 67 13 (Or.inr (by decide))).trans g6) (by rw [k11]) (hIa 77 (by decide)) (hIa 78 (by decide)) ?_ (fun y => ?_)⟩ ⟨⟨(k3 67 46 (Or.inr (by decide))).trans hs.1.1, fun k e he => ?_⟩, ?_, fun k q hq => ?_⟩
    · refine ⟨?_, ?_, ?_, ?_, ?_⟩
      · rw [hIa 80 (by decide), g8.1]
        exact congrArg nI (np_c (show (0 : Nat) ≠ 4 by decide)).symm
      · rw [hIa 83 (by decide), g8.2.1]
        exact congrArg nI (np_c (show (1 : Nat) ≠ 4 by decide)).symm
      · rw [hIa 86 (by decide), g8.2.2.1]
        exact congrArg nI (np_c (show (2 : Nat) ≠ 4 by decide)).symm
      · rw [hIa 90 (by decide), g8.2.2.2.1]
        exact congrArg nI (np_c (show (3 : Nat) ≠ 4 by decide)).symm
      · rw [k10, np_p]
    · obtain ⟨w1, w2, w3, w4, w5⟩ := g13 y
      have c0 : ∀ k, k ≠ 4 → np W kd fi se lo 0 k = W 0 k := fun k e => np_c e
      have ca : ∀ a, a ≠ 0 → a ≠ 7 → a ≠ 8 → a ≠ 9 → a ≠ 10 → np W kd fi se lo a = W a := fun a e e7 e8 e9 e10 => np_a e e7 e8 e9 e10
      refine ⟨fun g hg => ?_, fun k hk => ?_, fun k hk => ?_, fun c hc => ?_, fun p hp => ?_⟩
      · have hg' : g < W 0 0 := by
          have hh : g < np W kd fi se lo 0 0 := hg
          rw [c0 0 (by decide)] at hh
          exact hh
        show gc_I t 81 _ = nI (np W kd fi se lo 1 g) ∧ gc_I t 82 _ = nI (np W kd fi se lo 11 g)
        rw [ca 1 (by decide) (by decide) (by decide) (by decide) (by decide), ca 11 (by decide) (by decide) (by decide) (by decide) (by decide), hIa 81 (by decide), hIa 82 (by decide)]
        exact w1 g hg'
      · have hk' : k < W 0 1 := by
          have hh : k < np W kd fi se lo 0 1 := hk
          rw [c0 1 (by decide)] at hh
          exact hh
        show gc_I t 84 _ = nI (np W kd fi se lo 2 k) ∧ gc_I t 85 _ = nI (np W kd fi se lo 3 k)
        rw [ca 2 (by decide) (by decide) (by decide) (by decide) (by decide), ca 3 (by decide) (by decide) (by decide) (by decide) (by decide), hIa 84 (by decide), hIa 85 (by decide)]
        exact w2 k hk'
      · have hk' : k < W 0 2 := by
          have hh : k < np W kd fi se lo 0 2 := hk
          rw [c0 2 (by decide)] at hh
          exact hh
        show gc_I t 87 _ = nI (np W kd fi se lo 2 (3 + k)) ∧ gc_I t 88 _ = nI (np W kd fi se lo 3 (3 + k)) ∧ gc_I t 89 _ = ld_oI (np W kd fi se lo 4 (3 + k))
        rw [ca 2 (by decide) (by decide) (by decide) (by decide) (by decide), ca 3 (by decide) (by decide) (by decide) (by decide) (by decide), ca 4 (by decide) (by decide) (by decide) (by decide) (by decide), hIa 87 (by decide), hIa 88 (by decide), hIa 89 (by decide)]
        exact w3 k hk'
      · have hc' : c < W 0 3 := by
          have hh : c < np W kd fi se lo 0 3 := hc
          rw [c0 3 (by decide)] at hh
          exact hh
        show gc_I t 91 _ = nI (np W kd fi se lo 5 c) ∧ gc_I t 92 _ = nI (np W kd fi se lo 6 c)
        rw [ca 5 (by decide) (by decide) (by decide) (by decide) (by decide), ca 6 (by decide) (by decide) (by decide) (by decide) (by decide), hIa 91 (by decide), hIa 92 (by decide)]
        exact w4 c hc'
      · rw [np_p] at hp
        by_cases e : p = ld_p W
        · rw [e, k6, k7, k8, np_7, np_fI.1, np_fI.2]
          exact ⟨rfl, hl2 y, hl3 y⟩
        · obtain ⟨x1, x2, x3, x4⟩ := fI_ex (ex_np (W := W) (kd := kd) (fi := fi) (se := se) (lo := lo)) (p := p) (by omega)
          rw [k5 94 _ (fun _ => by omega) (by omega) (by omega), k5 95 _ (fun _ => by omega) (by omega) (by omega), k5 96 _ (fun _ => by omega) (by omega) (by omega), x1, x2, x3]
          exact w5 p (by omega)
    · rw [k5 97 k (by omega) (by omega) (by omega), k5 98 k (by omega) (by omega) (by omega)]
      exact hs.1.2 k e he
    · rw [k4, List.length_append]
      rfl
    · rcases Nat.lt_trichotomy k R.length with u | u | u
      · rw [List.getElem?_append_left u] at hq
        rw [k5 99 k (by omega) (fun _ => by omega) (by omega)]
        exact hs.2.2 k q hq
      · rw [u, List.getElem?_append_right (Nat.le_refl _), Nat.sub_self] at hq
        have he : ld_p W = q := by simpa using hq
        rw [u, k9, he]
      · rw [List.getElem?_eq_none (by rw [List.length_append]; show R.length + 1 ≤ k; omega)] at hq
        exact absurd hq (by simp)
  · have he : ld_p W = 24 := (nI_eq (by omega) (by decide)).mp z
    refine b_X11_ends_21 hP hm ⟨fun y => absurd y (zFR_n t1).2.1, fun _ => h2 t he t1⟩
end Ye
