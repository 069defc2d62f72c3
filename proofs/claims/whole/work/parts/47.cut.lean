/-! The reference's cut(): all TOKENS of the text. -/
theorem tk_skp_in {b : Nat → Nat} {n i : Nat} (h : i ≤ n) : i ≤ tk_skp b n i ∧ tk_skp b n i ≤ n := by
  have := tk_run_ge (p := fun j => tk_B (nI (b j))) (n - i) i
  unfold tk_skp
  omega
theorem tk_skp_bl {b : Nat → Nat} {n i : Nat} (h : i < n) (hb : tk_B (nI (b i)) = true) : tk_skp b n i = tk_skp b n (i + 1) := by
  unfold tk_skp
  rw [show n - i = (n - (i + 1)) + 1 by omega]
  show (if tk_B (nI (b i)) = true then _ else _) = _
  rw [if_pos hb]
theorem tk_skp_no {b : Nat → Nat} {n i : Nat} (hb : tk_B (nI (b i)) = false) : tk_skp b n i = i := by
  unfold tk_skp
  cases n - i with
  | zero => rfl
  | succ m =>
    show (if tk_B (nI (b i)) = true then _ else _) = _
    rw [if_neg (by rw [hb]; decide)]
theorem tk_skp_n {b : Nat → Nat} {n : Nat} : tk_skp b n n = n := by
  unfold tk_skp
  rw [Nat.sub_self]
  rfl
theorem tk_eL_in {b : Nat → Nat} {n i : Nat} (h : i < n) (hb : tk_L (nI (b i)) = true) : i < tk_eL b n i ∧ tk_eL b n i ≤ n ∧ (∀ j, i ≤ j → j < tk_eL b n i → tk_L (nI (b j)) = true) ∧ (tk_eL b n i < n → tk_L (nI (b (tk_eL b n i))) = false) := by
  have h1 := tk_run_ge (p := fun j => tk_L (nI (b j))) (n - i) i
  have h2 : tk_eL b n i = tk_run (fun j => tk_L (nI (b j))) (n - (i + 1)) (i + 1) := by
    unfold tk_eL
    rw [show n - i = (n - (i + 1)) + 1 by omega]
    show (if tk_L (nI (b i)) = true then _ else _) = _
    rw [if_pos hb]
  have h3 := tk_run_ge (p := fun j => tk_L (nI (b j))) (n - (i + 1)) (i + 1)
  refine ⟨by omega, by unfold tk_eL; omega, fun j a1 a2 => tk_run_all (n - i) i j a1 a2, fun a => ?_⟩
  exact tk_run_end (p := fun j => tk_L (nI (b j))) (n - i) i (by unfold tk_eL at a; omega)
theorem tk_eD_in {b : Nat → Nat} {n i : Nat} (h : i < n) (hb : tk_D (nI (b i)) = true) : i < tk_eD b n i ∧ tk_eD b n i ≤ n ∧ (∀ j, i ≤ j → j < tk_eD b n i → tk_D (nI (b j)) = true) ∧ (tk_eD b n i < n → tk_D (nI (b (tk_eD b n i))) = false) := by
  have h1 := tk_run_ge (p := fun j => tk_D (nI (b j))) (n - i) i
  have h2 : tk_eD b n i = tk_run (fun j => tk_D (nI (b j))) (n - (i + 1)) (i + 1) := by
    unfold tk_eD
    rw [show n - i = (n - (i + 1)) + 1 by omega]
    show (if tk_D (nI (b i)) = true then _ else _) = _
    rw [if_pos hb]
  have h3 := tk_run_ge (p := fun j => tk_D (nI (b j))) (n - (i + 1)) (i + 1)
  refine ⟨by omega, by unfold tk_eD; omega, fun j a1 a2 => tk_run_all (n - i) i j a1 a2, fun a => ?_⟩
  exact tk_run_end (p := fun j => tk_D (nI (b j))) (n - i) i (by unfold tk_eD at a; omega)
section Ct
variable {P : gc_Pr} {d : Nat} {s : gc_St} {Q : gc_TQ}
/-- a sign, or what is no TOKEN -/
theorem sp_sign (hP : gc_Cl P) (hm : gc_Mo P) (hd : 1 ≤ d) {t c : Nat} {kf pf vf : Nat → Int32} {nf : Nat → Int64} {i x : Int32} (ht : t < 403) (hc : c < 256) (hk : tk_sg c = kf t) (hp : i = pf t) (hv : 0 = vf t) (hn : 0 = nf t) (h : Q (some (.int 1)) (tk_can (t + 1) kf pf vf nf s)) :
    gc_T P d 0 0 183 0 [.ref 67, .int i, .int (nI c), .int x, gc_u] [] (tk_can t kf pf vf nf s) Q := by
  have hq : ∀ k : Nat, k < 256 → (nI c = nI k ↔ c = k) := fun k hk => nI_eq (by omega) (by omega)
  have k85 : gc_T P d 0 0 183 85 [.ref 67, .int i, .int (nI c), .int x, .int (tk_sg c)] [] (tk_can t kf pf vf nf s) Q := by
    refine b_X11_sign_85 hP hm ⟨hd, ?_⟩
    exact sp_token hP hm ht hk hp hv hn h
  have k33 : ∀ t0 : Int32, (c ≠ 43 → c ≠ 42 → c ≠ 61 → c ≠ 91 → c ≠ 93 → t0 = tk_sg c) → gc_T P d 0 0 183 33 [.ref 67, .int i, .int (nI c), .int x, gc_u] [.int t0] (tk_can t kf pf vf nf s) Q := by
    intro t0 h0
    have k75 : ∀ u : Int32, (c ≠ 93 → u = tk_sg c) → gc_T P d 0 0 183 75 [.ref 67, .int i, .int (nI c), .int x, .int u] [] (tk_can t kf pf vf nf s) Q := by
      intro u hu
      refine b_X11_sign_75 hP hm ⟨fun y => ?_, fun y => ?_⟩
      · rw [st_lit 93, hq 93 (by omega)] at y
        rw [hu y]; exact k85
      · rw [st_lit 93, hq 93 (by omega)] at y
        rw [show (12 : Int32) = tk_sg c by rw [y]; decide]; exact k85
    have k65 : ∀ u : Int32, (c ≠ 91 → c ≠ 93 → u = tk_sg c) → gc_T P d 0 0 183 65 [.ref 67, .int i, .int (nI c), .int x, .int u] [] (tk_can t kf pf vf nf s) Q := by
      intro u hu
      refine b_X11_sign_65 hP hm ⟨fun y => ?_, fun y => ?_⟩
      · rw [st_lit 91, hq 91 (by omega)] at y
        exact k75 u (hu y)
      · rw [st_lit 91, hq 91 (by omega)] at y
        exact k75 _ (fun _ => by rw [y]; decide)
    have k55 : ∀ u : Int32, (c ≠ 61 → c ≠ 91 → c ≠ 93 → u = tk_sg c) → gc_T P d 0 0 183 55 [.ref 67, .int i, .int (nI c), .int x, .int u] [] (tk_can t kf pf vf nf s) Q := by
      intro u hu
      refine b_X11_sign_55 hP hm ⟨fun y => ?_, fun y => ?_⟩
      · rw [st_lit 61, hq 61 (by omega)] at y
        exact k65 u (hu y)
      · rw [st_lit 61, hq 61 (by omega)] at y
        exact k65 _ (fun _ _ => by rw [y]; decide)
    have k45 : ∀ u : Int32, (c ≠ 42 → c ≠ 61 → c ≠ 91 → c ≠ 93 → u = tk_sg c) → gc_T P d 0 0 183 45 [.ref 67, .int i, .int (nI c), .int x, .int u] [] (tk_can t kf pf vf nf s) Q := by
      intro u hu
      refine b_X11_sign_45 hP hm ⟨fun y => ?_, fun y => ?_⟩
      · rw [st_lit 42, hq 42 (by omega)] at y
        exact k55 u (hu y)
      · rw [st_lit 42, hq 42 (by omega)] at y
        exact k55 _ (fun _ _ _ => by rw [y]; decide)
    refine b_X11_sign_33 hP hm ⟨fun y => ?_, fun y => ?_⟩
    · rw [st_lit 43, hq 43 (by omega)] at y
      exact k45 t0 (h0 y)
    · rw [st_lit 43, hq 43 (by omega)] at y
      exact k45 _ (fun _ _ _ _ => by rw [y]; decide)
  refine b_X11_sign_0 hP hm ?_
  rw [st_lit 59, st_lit 40, st_lit 41, hq 59 (by omega), hq 40 (by omega), hq 41 (by omega)]
  refine ⟨fun y1 => ⟨fun y2 => ⟨fun y3 => ?_, fun y3 => ?_⟩, fun y2 => ?_⟩, fun y1 => ?_⟩
  · exact k33 _ (fun z1 z2 z3 z4 z5 => by unfold tk_sg; simp [y1, y2, y3, z1, z2, z3, z4, z5])
  · exact k33 _ (fun _ _ _ _ _ => by rw [y3]; decide)
  · exact k33 _ (fun _ _ _ _ _ => by rw [y2]; decide)
  · exact k33 _ (fun _ _ _ _ _ => by rw [y1]; decide)
end Ct
