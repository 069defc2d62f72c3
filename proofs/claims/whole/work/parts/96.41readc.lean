/-! read, by the class. -/
theorem tk_C_u {b : Nat → Nat} {n T T' : Nat} (h : tk_C b n T) (h' : tk_C b n T') : T = T' := by
  have key : ∀ T T', tk_C b n T → tk_C b n T' → ¬ T < T' := by
    intro T T' h h' hlt
    have h1 := h'.2.2.1 (T - 1) (by have := h.1; omega)
    have h2 := h'.2.1
    rcases h.2.2.2 with e | e | e
    · omega
    · exact h1.1 e
    · exact h1.2 e
  have := key T T' h h'
  have := key T' T h' h
  omega
theorem tk_T_u {b : Nat → Nat} {n T T' : Nat} (h : tk_T b n T) (h' : tk_T b n T') : T = T' := by
  have key : ∀ T T', tk_T b n T → tk_T b n T' → ¬ T < T' := by
    intro T T' h h' hlt
    have h1 := h'.1
    rcases h.2 with ⟨e, _⟩ | ⟨e1, e2, _⟩
    · omega
    · rcases h'.2 with ⟨_, g⟩ | ⟨_, _, g⟩
      · have := g (T - 1) (by omega)
        omega
      · have := g (T - 1) (by omega)
        omega
  have := key T T' h h'
  have := key T' T h' h
  omega
noncomputable def TcN (b : Nat → Nat) (n : Nat) : Nat := Classical.epsilon (fun T => tk_C b n T)
noncomputable def TrN (b : Nat → Nat) (n : Nat) : Nat := Classical.epsilon (fun T => tk_T b n T)
theorem TcN_eq {b : Nat → Nat} {n T : Nat} (h : tk_C b n T) : T = TcN b n := tk_C_u h (Classical.epsilon_spec (p := fun T => tk_C b n T) ⟨T, h⟩)
theorem TrN_eq {b : Nat → Nat} {n T : Nat} (h : tk_T b n T) : T = TrN b n := tk_T_u h (Classical.epsilon_spec (p := fun T => tk_T b n T) ⟨T, h⟩)
/-- nothing is told -/
def W0 : ld_W := fun _ _ => 0
theorem W0_ok : ld_ok W0 := by
  refine ⟨⟨by decide, by decide, by decide, by decide, by decide⟩, fun k hk => ?_, fun k hk => rfl, fun c hc => absurd hc (Nat.not_lt_zero _), fun g hg => absurd hg (Nat.not_lt_zero _), fun p hp => absurd hp (Nat.not_lt_zero _)⟩
  have hk' : k < 0 ∨ (3 ≤ k ∧ k < 3 + 0) := hk
  omega
theorem tI_0 {b : Nat → Nat} {n : Nat} : tI b n 0 W0 none [] := ⟨⟨by decide, by decide, by decide, by decide, by decide⟩, fun w e => absurd e (by simp), fun _ => ⟨fun e e' he => absurd he (by simp), fun e he => absurd he (by simp), W0_ok, fun g hg => absurd hg (Nat.not_lt_zero _)⟩⟩
/-- what comes of reading a text, and both come to it -/
def rdX (b : Nat → Nat) (n L sd : Nat) (res : tRes) : Prop := rdP b n res ∧ (∀ (P : gc_Pr) (d : Nat) (s S0 : gc_St) (Q : gc_TQ) (c : Nat), gc_Cl P → gc_Mo P → 61 ≤ d → c ≤ 0 → zT b n (TcN b n) L (cnt4 W0) [] S0 0 W0 none s → rqC b n (TcN b n) L S0 res Q → gc_T P d 0 0 31 21 [.ref 9, .ref L, .int 1, .int (nI c)] [] s Q) ∧ (∀ (P : gc_Pr) (d : Nat) (s S0 : gc_St) (Q : gc_TQ), gc_Cl P → gc_Mo P → 13 ≤ d → zU b n (TrN b n) sd (cnt4 W0) [] S0 0 W0 none s → rqR b n (TrN b n) sd S0 res P d Q → gc_T P d 0 0 190 80 [.ref 67, gc_u] [] s Q)
theorem rd_ex {b : Nat → Nat} {n L sd : Nat} (hn : n ≤ 2000) (hlt : ∀ j, b j < 256) : ∃ res, rdX b n L sd res := rd_loop hn hlt 401 0 W0 none [] (by omega) tI_0
def Ard (L q k : Nat) : Bool := AcL L q k || ((Nat.beq q 1 && Nat.beq k 1) || (Nat.beq q 0 && Nat.beq k 12))
def Brd (L a : Nat) : Bool := BcC L a || B47 a
theorem Ard_iff {L q k : Nat} : Ard L q k = true ↔ (q = 3 ∨ q = 9 ∨ q = L) ∨ (q = 1 ∧ k = 1) ∨ (q = 0 ∧ k = 12) := by
  unfold Ard
  rw [Bool.or_eq_true, Bool.or_eq_true, Bool.and_eq_true, Bool.and_eq_true, AcL_iff, Nat.beq_eq, Nat.beq_eq, Nat.beq_eq, Nat.beq_eq]
theorem B47_iff {a : Nat} : B47 a = true ↔ 4 ≤ a ∧ a ≤ 7 := by
  unfold B47
  rw [Bool.and_eq_true, Nat.ble_eq, Nat.ble_eq]
theorem Brd_iff {L a : Nat} : Brd L a = true ↔ (L + 1 ≤ a ∧ a ≤ L + 12) ∨ (4 ≤ a ∧ a ≤ 7) := by
  unfold Brd
  rw [Bool.or_eq_true, BcC_iff, B47_iff]
theorem fr_wrl {A : Nat → Nat → Bool} {B : Nat → Bool} {s t : gc_St} {x : Option Nat} (h : fr A B s t) : fr A B (gc_wrl s x) (gc_wrl t x) := by
  refine ⟨h.1, h.2.1, h.2.2.1, h.2.2.2.1, ?_⟩
  have := h.2.2.2.2
  show (t.2.2.2.2.2.1, t.2.2.2.2.2.2.1, x, t.2.2.2.2.2.2.2.2) = (s.2.2.2.2.2.1, s.2.2.2.2.2.2.1, x, s.2.2.2.2.2.2.2.2)
  rw [this]
section Rc
variable {P : gc_Pr} {d : Nat} {s : gc_St} {Q : gc_TQ} {b : Nat → Nat} {n L sd : Nat} {res : tRes}
theorem sp_readC (hP : gc_Cl P) (hm : gc_Mo P) (hd : 70 ≤ d) (hX : rdX b n L sd res) (hL : cl_L L) (hdr : gc_dr s = L) (hn : n ≤ 2000) (hb : ∀ j, j < n → tk_b (gc_I s 2 j) = b j) (hlt : ∀ j, b j < 256) (hF : gc_F s 1 1 = nI n) (hJ : ∀ k, k < 20 → gc_J s 8 k = lN (w32 k))
    (h1 : ∀ t x p, res = .inl (x, p) → fr (Ard L) (Brd L) (gc_wrl s (some L)) t → gc_F t 1 1 = 0 → gc_F t 0 12 = nI p → 1 ≤ x → x < 9 → Q (some (.int (nI x))) t)
    (h2 : ∀ t e v, res = .inr e → e.2.2.1 = some v → fr (Ard L) (Brd L) (gc_wrl s (some L)) t → gc_F t 1 1 = 0 → gc_F t 0 12 = nI v.2 → Q (some (.int (nI v.1))) t)
    (h3 : ∀ t e, res = .inr e → e.2.2.1 = none → fr (Ard L) (Brd L) (gc_wrl s (some L)) t → gc_F t 1 1 = 0 → gc_F t 0 12 = -1 → lwC e.2.1 L t → nmC e.2.2.2 L t → gc_T P (d - 1) 0 0 124 0 [.ref 0, gc_u, gc_u, gc_u] [] t (fun r s => gc_rv r (Q (some (.int 0)) s))) : gc_T P d 0 0 123 0 [.ref 0, gc_u] [] s Q := by
  have hLne := cL_ne hL
  have hL0 : L ≠ 0 := by rcases hL with e | e <;> omega
  refine b_X10_read_0 hP hm ⟨by omega, sp_scan hP hm (by omega) (Or.inr rfl) hn hb hlt hF hJ (fun t T t1 t2 t3 t4 => ⟨by omega, ?_⟩)⟩
  rw [fr_dr t2, hdr]
  refine b_X3_readInto_0 hP hm (cl_io hL) ⟨by omega, b_X2_clear_0 hP hm (cl_io hL) ?_⟩
  obtain ⟨v11, v7, v12, v13, v8, v10, v14, v15, vln⟩ := t4
  have hS : ∀ u, u = gc_wF (gc_wF (gc_wF (gc_wF (gc_wF (gc_wF (gc_wF (gc_wF (gc_wrl t (some L)) L 0 0) L 1 0) L 2 0) L 3 0) L 4 0) L 5 0) L 6 0) 9 2 0 → fr (Ard L) (Brd L) (gc_wrl s (some L)) u ∧ zT b n (TcN b n) L (cnt4 W0) [] u 0 W0 none u := by
    intro u e
    have aL : ∀ k, Ard L L k = true := fun k => Ard_iff.mpr (Or.inl (Or.inr (Or.inr rfl)))
    have g0 : fr (Ard L) (Brd L) (gc_wrl s (some L)) (gc_wrl t (some L)) := fr_wrl (fr_up t2 (fun q k z => Ard_iff.mpr (Or.inl (Or.inl (A3_iff.mp z)))) (fun a z => Brd_iff.mpr (Or.inr (B47_iff.mp z))))
    have g : fr (Ard L) (Brd L) (gc_wrl s (some L)) u := by
      rw [e]
      exact fr_wF (Ard_iff.mpr (Or.inl (Or.inr (Or.inl rfl)))) (fr_wF (aL _) (fr_wF (aL _) (fr_wF (aL _) (fr_wF (aL _) (fr_wF (aL _) (fr_wF (aL _) (fr_wF (aL _) g0)))))))
    have hFq : ∀ q k, q ≠ L → q ≠ 9 → gc_F u q k = gc_F t q k := by
      intro q k q1 q2
      rw [e, F_ne _ _ (Or.inl q2), F_ne _ _ (Or.inl q1), F_ne _ _ (Or.inl q1), F_ne _ _ (Or.inl q1), F_ne _ _ (Or.inl q1), F_ne _ _ (Or.inl q1), F_ne _ _ (Or.inl q1), F_ne _ _ (Or.inl q1)]
      rfl
    have hFL : ∀ k, k ≤ 6 → gc_F u L k = 0 := by
      intro k hk
      rw [e, F_ne _ _ (Or.inl hLne.2.1)]
      rcases (by omega : k = 6 ∨ k = 5 ∨ k = 4 ∨ k = 3 ∨ k = 2 ∨ k = 1 ∨ k = 0) with rfl | rfl | rfl | rfl | rfl | rfl | rfl
      · rw [F_eq]
      · rw [F_ne _ _ (Or.inr (by decide)), F_eq]
      · rw [F_ne _ _ (Or.inr (by decide)), F_ne _ _ (Or.inr (by decide)), F_eq]
      · rw [F_ne _ _ (Or.inr (by decide)), F_ne _ _ (Or.inr (by decide)), F_ne _ _ (Or.inr (by decide)), F_eq]
      · rw [F_ne _ _ (Or.inr (by decide)), F_ne _ _ (Or.inr (by decide)), F_ne _ _ (Or.inr (by decide)), F_ne _ _ (Or.inr (by decide)), F_eq]
      · rw [F_ne _ _ (Or.inr (by decide)), F_ne _ _ (Or.inr (by decide)), F_ne _ _ (Or.inr (by decide)), F_ne _ _ (Or.inr (by decide)), F_ne _ _ (Or.inr (by decide)), F_eq]
      · rw [F_ne _ _ (Or.inr (by decide)), F_ne _ _ (Or.inr (by decide)), F_ne _ _ (Or.inr (by decide)), F_ne _ _ (Or.inr (by decide)), F_ne _ _ (Or.inr (by decide)), F_ne _ _ (Or.inr (by decide)), F_eq]
    have h3 : ∀ k, gc_F u 3 k = gc_F t 3 k := fun k => hFq 3 k (fun z => hLne.1 z.symm) (by decide)
    have hI : gc_I u = gc_I t := by rw [e]; rfl
    have hJu : gc_J u = gc_J t := by rw [e]; rfl
    have hrl : gc_rl u = some L := by rw [e]; rfl
    refine ⟨g, fr_refl u, ⟨by rw [← TcN_eq t1]; exact t1, fun j hj => ?_, (h3 7).trans v7, ?_⟩, fun z => absurd z (by decide), fr_refl u, ⟨(h3 11).trans v11, (h3 12).trans v12⟩, Or.inl ⟨rfl, (h3 14).trans v14, (h3 15).trans v15⟩, ⟨hL, hrl, by rw [e, F_eq]; rfl⟩, ⟨hFL 0 (by decide), hFL 1 (by decide), hFL 2 (by decide), hFL 3 (by decide), hFL 4 (by decide)⟩, ⟨[], ⟨hFL 6 (by decide), Nat.zero_le _, fun k e he => absurd he (by simp)⟩, fun e he => absurd he (by simp), Nat.zero_le _, fun _ => rfl⟩, fun _ => ⟨⟨⟨hFL 0 (by decide), hFL 1 (by decide), hFL 2 (by decide), hFL 3 (by decide), hFL 4 (by decide)⟩, fun g hg => absurd hg (Nat.not_lt_zero _), fun k hk => ?_, fun c hc => absurd hc (Nat.not_lt_zero _), fun p hp => absurd hp (Nat.not_lt_zero _)⟩, hFL 5 (by decide)⟩⟩
    · rw [← TcN_eq t1] at hj
      have := t3 j hj
      unfold tkF at this ⊢
      rw [hI, hJu]
      exact this
    · rw [← TcN_eq t1]
      exact t1.1
    · have hk' : k < 0 ∨ (3 ≤ k ∧ k < 3 + 0) := hk
      omega
  have hS0 := hS _ rfl
  show gc_T P _ 0 0 31 21 [.ref 9, .ref L, .int 1, .int 0] [] _ _
  revert hS0
  generalize gc_wF (gc_wF (gc_wF (gc_wF (gc_wF (gc_wF (gc_wF (gc_wF (gc_wrl t (some L)) L 0 0) L 1 0) L 2 0) L 3 0) L 4 0) L 5 0) L 6 0) 9 2 0 = u
  intro ⟨gu, hu⟩
  -- behind the loop
  have fin : ∀ (w : gc_St) (x y : Int32), frC L u w → ((gc_F w 3 12 = 0 → gc_F w 3 14 = x ∧ gc_F w 3 15 = y) ∧ (¬ gc_F w 3 12 = 0 → gc_F w 3 12 = x ∧ gc_F w 3 13 = y)) → (∀ t, fr (Ard L) (Brd L) (gc_wrl s (some L)) t → gc_F t 1 1 = 0 → gc_F t 0 12 = y → (∀ k, k ≤ 6 → gc_F t L k = gc_F w L k) → gc_I t = gc_I w → gc_J t = gc_J w → (¬ x = 0 → Q (some (.int x)) t) ∧ (x = 0 → gc_T P (d - 1) 0 0 124 0 [.ref 0, gc_u, gc_u, gc_u] [] t (fun r s => gc_rv r (Q (some (.int 0)) s)))) → 1 ≤ d ∧ gc_T P (d - 1) 0 0 111 0 [.ref 3] [] (gc_wF w 1 1 0) (fun r5 s6 => gc_ri r5 fun x7 => 1 ≤ d ∧ gc_T P (d - 1) 0 0 110 0 [.ref 3] [] (gc_wF s6 0 12 x7) (fun r8 s9 => gc_ri r8 fun x10 => (¬ x10 = 0 → (Q (some (.int x10)) s9)) ∧ (x10 = 0 → (1 ≤ d ∧ gc_T P (d - 1) 0 0 124 0 [.ref 0, gc_u, gc_u, gc_u] [] s9 (fun r11 s12 => gc_rv r11 (Q (some (.int x10)) s12)))))) := by
    intro w x y gw hw hQ
    have gw' : fr (Ard L) (Brd L) (gc_wrl s (some L)) w := fr_trans gu (fr_up gw (fun q k z => Ard_iff.mpr (Or.inl (AcL_iff.mp z))) (fun a z => Brd_iff.mpr (Or.inl (BcC_iff.mp z))))
    have gf : fr (Ard L) (Brd L) (gc_wrl s (some L)) (gc_wF (gc_wF w 1 1 0) 0 12 y) := fr_wF (Ard_iff.mpr (Or.inr (Or.inr ⟨rfl, rfl⟩))) (fr_wF (Ard_iff.mpr (Or.inr (Or.inl ⟨rfl, rfl⟩))) gw')
    have e3 : ∀ k, gc_F (gc_wF w 1 1 0) 3 k = gc_F w 3 k := fun k => F_ne _ _ (Or.inl (by decide))
    have e3' : ∀ k, gc_F (gc_wF (gc_wF w 1 1 0) 0 12 y) 3 k = gc_F w 3 k := fun k => (F_ne _ _ (Or.inl (by decide))).trans (e3 k)
    obtain ⟨q1, q2⟩ := hQ _ gf ((F_ne _ _ (Or.inl (by decide))).trans (F_eq _ _ _ _)) (F_eq _ _ _ _) (fun k _ => (F_ne _ _ (Or.inl hL0)).trans (F_ne _ _ (Or.inl hLne.2.2.2))) rfl rfl
    have go : gc_T P (d - 1) 0 0 110 0 [.ref 3] [] (gc_wF (gc_wF w 1 1 0) 0 12 y) (fun r8 s9 => gc_ri r8 fun x10 => (¬ x10 = 0 → (Q (some (.int x10)) s9)) ∧ (x10 = 0 → (1 ≤ d ∧ gc_T P (d - 1) 0 0 124 0 [.ref 0, gc_u, gc_u, gc_u] [] s9 (fun r11 s12 => gc_rv r11 (Q (some (.int x10)) s12))))) := by
      have qq : (¬ x = 0 → (Q (some (.int x)) (gc_wF (gc_wF w 1 1 0) 0 12 y))) ∧ (x = 0 → (1 ≤ d ∧ gc_T P (d - 1) 0 0 124 0 [.ref 0, gc_u, gc_u, gc_u] [] (gc_wF (gc_wF w 1 1 0) 0 12 y) (fun r11 s12 => gc_rv r11 (Q (some (.int x)) s12)))) := ⟨q1, fun z => ⟨by omega, by rw [z]; exact q2 z⟩⟩
      refine b_X8_verdict_0 hP hm ⟨fun z => ?_, fun z => ?_⟩
      · rw [e3' 14, (hw.1 (by rw [← e3' 12]; exact z)).1]
        exact qq
      · rw [e3' 12, (hw.2 (by rw [← e3' 12]; exact z)).1]
        exact qq
    refine ⟨by omega, b_X8_verdictPlace_0 hP hm ⟨fun z => ?_, fun z => ?_⟩⟩
    · rw [e3 15, (hw.1 (by rw [← e3 12]; exact z)).2]
      exact ⟨by omega, go⟩
    · rw [e3 13, (hw.2 (by rw [← e3 12]; exact z)).2]
      exact ⟨by omega, go⟩
  refine hX.2.1 P _ u u _ 0 hP hm (by omega) (Nat.le_refl _) hu ?_
  cases res with
  | inl e =>
    obtain ⟨x, p⟩ := e
    intro w hw
    have hx1 : 1 ≤ x := hw.2.2.1
    have hx9 : x < 9 := hw.2.2.2
    have hne : ¬ nI x = 0 := nI_ne0 hx1 (by omega)
    refine fin w (nI x) (nI p) hw.1 ⟨fun z => absurd (hw.2.1.1.symm.trans z) hne, fun _ => hw.2.1⟩ (fun t g1 g2 g3 _ _ _ => ⟨fun _ => h1 t x p rfl g1 g2 g3 hx1 hx9, fun z => absurd z hne⟩)
  | inr e =>
    obtain ⟨i', W', r', nl'⟩ := e
    intro w hw
    obtain ⟨hw1, hw2⟩ := hw
    have h12 : gc_F w 3 12 = 0 := hw2.2.2.2.1.2
    cases hr' : r' with
    | some v =>
      rcases hw2.2.2.2.2.1 with ⟨z, _⟩ | ⟨v', z, y1, y2, y3, y4⟩
      · have z' : r' = none := z
        rw [hr'] at z'
        exact absurd z' (by simp)
      · have z' : r' = some v' := z
        rw [hr', Option.some.injEq] at z'
        rw [← z'] at y1 y2 y3 y4
        have hne : ¬ nI v.1 = 0 := nI_ne0 y1 y2
        exact fin w (nI v.1) (nI v.2) hw1 ⟨fun _ => ⟨y3, y4⟩, fun z => absurd h12 z⟩ (fun t g1 g2 g3 _ _ _ => ⟨fun _ => h2 t (i', W', r', nl') v rfl hr' g1 g2 g3, fun z => absurd z hne⟩)
    | none =>
      rcases hw2.2.2.2.2.1 with ⟨_, y3, y4⟩ | ⟨v', z, _⟩
      · refine fin w 0 (-1) hw1 ⟨fun _ => ⟨y3, y4⟩, fun z => absurd h12 z⟩ (fun t g1 g2 g3 g4 g5 g6 => ⟨fun z => absurd rfl z, fun _ => h3 t (i', W', r', nl') rfl hr' g1 g2 g3 ?_ ?_⟩)
        · exact lwC_of (hw2.2.2.2.2.2.2.2.2 hr') (fun k hk => g4 k (by omega)) (fun j k _ => by rw [g5])
        · obtain ⟨nx, q1, q2, q3, q4⟩ := hw2.2.2.2.2.2.2.2.1
          have q4' : nx = nl' := q4 hr'
          rw [q4'] at q1
          exact nmC_of q1 (g4 6 (Nat.le_refl _)) (by rw [g6]) (by rw [g5])
      · have z' : r' = some v' := z
        rw [hr'] at z'
        exact absurd z' (by simp)
end Rc
