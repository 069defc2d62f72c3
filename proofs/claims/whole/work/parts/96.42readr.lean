/-! read, by the reference. -/
def Abg (q k : Nat) : Bool := Nat.beq q 67 && (Nat.beq k 3 || (Nat.beq k 5 || (Nat.beq k 11 || (Nat.beq k 12 || (Nat.beq k 13 || (Nat.beq k 14 || Nat.beq k 16))))))
def Bbg (a : Nat) : Bool := Nat.ble 70 a && Nat.ble a 74
theorem Abg_iff {q k : Nat} : Abg q k = true ↔ q = 67 ∧ (k = 3 ∨ k = 5 ∨ k = 11 ∨ k = 12 ∨ k = 13 ∨ k = 14 ∨ k = 16) := by
  unfold Abg
  simp only [Bool.and_eq_true, Bool.or_eq_true, Nat.beq_eq]
theorem Bbg_iff {a : Nat} : Bbg a = true ↔ 70 ≤ a ∧ a ≤ 74 := by
  unfold Bbg
  rw [Bool.and_eq_true, Nat.ble_eq, Nat.ble_eq]
section Yb
variable {P : gc_Pr} {d : Nat} {s : gc_St} {Q : gc_TQ} {b : Nat → Nat} {n sd : Nat} {res : tRes}
theorem y_begins (hP : gc_Cl P) (hm : gc_Mo P) (hd : 3 ≤ d) (hn : n ≤ 2000) (hF : gc_F s 67 3 = nI n) (hby : ∀ j, j < n → vp_nar .byte (gc_I s 69 j) = gc_I s 69 j) (hb : ∀ j, j < n → tk_b (gc_I s 69 j) = b j) (hb2 : ∀ j, n ≤ j → tk_b (gc_I s 70 j) = b j) (hJ : ∀ k, k < 10 → gc_J s 75 k = lN (k27 k)) (hQ : ∀ t, rpw b n (TrN b n) 0 t → fr Abg Bbg s t → (gc_F t 67 3 = 0 ∧ gc_F t 67 13 = 0 ∧ gc_F t 67 14 = 0 ∧ gc_F t 67 16 = 0) → Q none t) : gc_T P d 0 0 189 0 [.ref 67, gc_u] [] s Q := by
  refine b_X11_begins_0 hP hm ?_
  rw [hF]
  have key : ∀ m i u, i + m = n → fr Abg Bbg s u → gc_F u 67 5 = nI n → (∀ j, j < i → gc_I u 70 j = gc_I s 69 j) → (∀ j, i ≤ j → gc_I u 70 j = gc_I s 70 j) → gc_T P d 0 0 189 10 [.ref 67, .int (nI i)] [] u Q := by
    intro m
    induction m with
    | zero =>
      intro i u hi g h5 h1 h2
      obtain rfl : i = n := by omega
      refine b_X11_begins_10 hP hm ?_
      rw [h5]
      refine pk_le i i (fun _ => ⟨by omega, ?_⟩) (fun z => by omega)
      have hbe : tk_tx (gc_wF u 67 3 0) = b := by
        funext j
        show tk_b (gc_I u 70 j) = b j
        by_cases e : j < i
        · rw [h1 j e]
          exact hb j e
        · rw [h2 j (by omega)]
          exact hb2 j (by omega)
      have g3 : fr Abg Bbg s (gc_wF u 67 3 0) := fr_wF rfl g
      refine sp_cut hP hm (by omega) hn ((F_ne _ _ (Or.inr (by decide))).trans h5) (kw := k27) (fun k hk => by
        show gc_J u 75 k = _
        rw [fr_J g rfl]
        exact hJ k hk) k27_sm (fun T hT => ?_)
      rw [hbe] at hT ⊢
      have hF3 : gc_F (gc_wF u 67 3 0) 67 3 = 0 := F_eq _ _ _ _
      revert g3 hF3
      generalize gc_wF u 67 3 0 = u'
      intro g3 hF3
      have hTE := TrN_eq hT
      have eF : ∀ q k, (q ≠ 67 ∨ k ≠ 11) → gc_F (tk_all k27 b i T u') q k = gc_F u' q k := by
        intro q k hq
        show va_up u'.1 67 (va_up (u'.1 67) 11 (nI T)) q k = u'.1 q k
        by_cases e : q = 67
        · rw [e]
          have hk : k ≠ 11 := hq.elim (fun z => absurd e z) id
          show (if (67 : Nat) = 67 then va_up (u'.1 67) 11 (nI T) else u'.1 67) k = u'.1 67 k
          rw [if_pos rfl]
          show (if k = 11 then nI T else u'.1 67 k) = u'.1 67 k
          rw [if_neg hk]
        · show (if q = 67 then va_up (u'.1 67) 11 (nI T) else u'.1 q) k = u'.1 q k
          rw [if_neg e]
      have gT : fr Abg Bbg u' (tk_all k27 b i T u') := by
        refine ⟨fun q k hA => eF q k ?_, fun a hB => ?_, fun _ => rfl, rfl, rfl⟩
        · by_cases e : q = 67
          · exact Or.inr fun e2 => by rw [e, e2] at hA; exact absurd hA (by decide)
          · exact Or.inl e
        · have ha : ¬ (70 ≤ a ∧ a ≤ 74) := fun z => by rw [Bbg_iff.mpr z] at hB; exact absurd hB (by decide)
          refine ⟨?_, ?_⟩
          · show va_up (va_up (va_up u'.2.1 71 _) 72 _) 73 _ a = u'.2.1 a
            show (if a = 73 then _ else (if a = 72 then _ else (if a = 71 then _ else u'.2.1 a))) = u'.2.1 a
            rw [if_neg (by omega), if_neg (by omega), if_neg (by omega)]
          · show (if a = 74 then _ else u'.2.2.1 a) = u'.2.2.1 a
            rw [if_neg (by omega)]
      have hmix : ∀ {α : Type} (f g : Nat → α) j, j < T → tk_mix T f g j = f j := fun f g j hj => by
        unfold tk_mix
        rw [if_pos hj]
      refine hQ _ ⟨by rw [← hTE]; exact hT, fun j hj => ?_, ?_, ?_⟩ (fr_wF rfl (fr_wF rfl (fr_wF rfl (fr_wF rfl (fr_trans g3 gT))))) ⟨?_, ?_, ?_, F_eq _ _ _ _⟩
      · rw [← hTE] at hj
        refine ⟨?_, ?_, ?_, ?_⟩
        · show tk_mix T (fun t => tk_kd k27 b i (tk_st b i t)) (u'.2.1 71) j = _
          exact hmix _ _ j hj
        · show tk_mix T (fun t => nI (tk_st b i t)) (u'.2.1 72) j = _
          exact hmix _ _ j hj
        · show tk_mix T (fun t => tk_vl b i (tk_st b i t)) (u'.2.1 73) j = _
          exact hmix _ _ j hj
        · show tk_mix T (fun t => lN (tk_na b i (tk_st b i t))) (u'.2.2.1 74) j = _
          exact hmix _ _ j hj
      · rw [F_ne _ _ (Or.inr (by decide)), F_ne _ _ (Or.inr (by decide)), F_ne _ _ (Or.inr (by decide)), F_eq]
        rfl
      · rw [← hTE]
        rcases hT.2 with ⟨e, _⟩ | ⟨e, _⟩ <;> omega
      · rw [F_ne _ _ (Or.inr (by decide)), F_ne _ _ (Or.inr (by decide)), F_ne _ _ (Or.inr (by decide)), F_ne _ _ (Or.inr (by decide)), eF _ _ (Or.inr (by decide))]
        exact hF3
      · rw [F_ne _ _ (Or.inr (by decide)), F_ne _ _ (Or.inr (by decide)), F_eq]
      · rw [F_ne _ _ (Or.inr (by decide)), F_eq]
    | succ m ih =>
      intro i u hi g h5 h1 h2
      refine b_X11_begins_10 hP hm ?_
      rw [h5, nI_clamp (by omega), nI_1, show gc_I u 69 = gc_I s 69 from fr_I g rfl, hby i (by omega)]
      refine pk_le n i (fun z => by omega) (fun _ => ⟨vp_in_nI (by omega) (by decide), vp_in_nI (by omega) (by decide), ih (i + 1) _ (by omega) (fr_wI rfl g) h5 (fun j hj => ?_) (fun j hj => ?_)⟩)
      · by_cases e : j = i
        · rw [e, I_eq]
        · rw [I_ne _ _ (Or.inr e)]
          exact h1 j (by omega)
      · rw [I_ne _ _ (Or.inr (by omega))]
        exact h2 j (by omega)
  exact key n 0 _ (by omega) (fr_wF rfl (fr_refl s)) (F_eq _ _ _ _) (fun j hj => absurd hj (Nat.not_lt_zero _)) (fun j _ => rfl)
/-- what a text that is not taken changes; one that is taken -/
def Arf (q k : Nat) : Bool := Nat.beq q 67 && (Nat.beq k 3 || (Nat.beq k 5 || (Nat.ble 11 k && Nat.ble k 18 || (Nat.beq k 20 || (Nat.beq k 21 || (Nat.beq k 43 || (Nat.beq k 46 || Nat.beq k 48)))))))
def Brf (a : Nat) : Bool := Nat.ble 70 a && Nat.ble a 74 || (Nat.ble 76 a && Nat.ble a 78 || Nat.ble 80 a && Nat.ble a 99)
theorem Arf_iff {q k : Nat} : Arf q k = true ↔ q = 67 ∧ (k = 3 ∨ k = 5 ∨ (11 ≤ k ∧ k ≤ 18) ∨ k = 20 ∨ k = 21 ∨ k = 43 ∨ k = 46 ∨ k = 48) := by
  unfold Arf
  simp only [Bool.and_eq_true, Bool.or_eq_true, Nat.beq_eq, Nat.ble_eq]
theorem Brf_iff {a : Nat} : Brf a = true ↔ (70 ≤ a ∧ a ≤ 74) ∨ (76 ≤ a ∧ a ≤ 78) ∨ (80 ≤ a ∧ a ≤ 99) := by
  unfold Brf
  simp only [Bool.and_eq_true, Bool.or_eq_true, Nat.ble_eq]
def Arg (q k : Nat) : Bool := Arf q k || (Nat.beq q 67 && (Nat.beq k 19 || (Nat.beq k 49 || (Nat.beq k 50 || (Nat.beq k 51 || (Nat.beq k 53 || (Nat.beq k 68 || Nat.beq k 77)))))))
def Brg (a : Nat) : Bool := Brf a || (Nat.beq a 79 || Nat.beq a 112)
theorem Arg_iff {q k : Nat} : Arg q k = true ↔ q = 67 ∧ (k = 3 ∨ k = 5 ∨ (11 ≤ k ∧ k ≤ 21) ∨ k = 43 ∨ k = 46 ∨ k = 48 ∨ k = 49 ∨ k = 50 ∨ k = 51 ∨ k = 53 ∨ k = 68 ∨ k = 77) := by
  unfold Arg
  rw [Bool.or_eq_true, Arf_iff]
  simp only [Bool.and_eq_true, Bool.or_eq_true, Nat.beq_eq]
  omega
theorem Brg_iff {a : Nat} : Brg a = true ↔ (70 ≤ a ∧ a ≤ 74) ∨ (76 ≤ a ∧ a ≤ 99) ∨ a = 112 := by
  unfold Brg
  rw [Bool.or_eq_true, Brf_iff]
  simp only [Bool.or_eq_true, Nat.beq_eq]
  omega
theorem sp_readR (hP : gc_Cl P) (hm : gc_Mo P) (hd : 20 ≤ d) {L lv : Nat} (hX : rdX b n L (1 - lv) res) (hlv : lv < 2) (h19 : gc_F s 67 19 = nI lv) (hn : n ≤ 2000) (hF : gc_F s 67 3 = nI n) (hby : ∀ j, j < n → vp_nar .byte (gc_I s 69 j) = gc_I s 69 j) (hb : ∀ j, j < n → tk_b (gc_I s 69 j) = b j) (hb2 : ∀ j, n ≤ j → tk_b (gc_I s 70 j) = b j) (hJ : ∀ k, k < 10 → gc_J s 75 k = lN (k27 k))
    (h1 : ∀ t x p, res = .inl (x, p) → fr Arf Brf s t → kpR lv s t → gc_F t 67 3 = 0 → gc_F t 67 18 = nI p → Q (some (.int (nI x))) t)
    (h2 : ∀ t e v, res = .inr e → e.2.2.1 = some v → fr Arf Brf s t → kpR lv s t → gc_F t 67 3 = 0 → gc_F t 67 18 = nI v.2 → Q (some (.int (nI v.1))) t)
    (h3 : ∀ t e, res = .inr e → e.2.2.1 = none → fr Arg Brg s t → gc_F t 67 3 = 0 → gc_F t 67 18 = -1 → (gc_F t 67 19 = nI (1 - lv) ∧ cnR e.2.1 (1 - lv) t ∧ lwR e.2.1 (1 - lv) t) → (nmR e.2.2.2 (1 - lv) t ∧ gc_I t 79 (1 - lv) = nI (16 * (1 - lv) + e.2.2.2.length)) → (gc_F t 67 49 = nI (told e.2.1 (ld_g e.2.1)) ∧ gc_F t 67 50 = nI (2 ^ ld_o e.2.1 - 1) ∧ gc_F t 67 51 = nI (2 ^ ld_b e.2.1 - 1) ∧ gc_F t 67 53 = -1 ∧ gc_F t 67 77 = 0 ∧ gc_F t 67 68 = 0) → (∀ k, k < 3 → gc_I t 112 k = 0) → Q (some (.int 0)) t) : gc_T P d 0 0 190 0 [.ref 67, gc_u] [] s Q := by
  have hsd : 1 - lv < 2 := by omega
  refine b_X11_read_0 hP hm ⟨by omega, y_begins hP hm (by omega) hn hF hby hb hb2 hJ (fun t t1 t2 t3 => ?_)⟩
  obtain ⟨v3, v13, v14, v16⟩ := t3
  have e19 : gc_F t 67 19 = nI lv := (fr_F t2 rfl).trans h19
  have eone : (1 : Int32) - nI lv = nI (1 - lv) := by rw [st_lit 1, pk_sub (by omega)]
  show vp_in ((1 : Int32) - gc_F t 67 19) 2 ∧ _
  rw [e19, eone, nI_clamp (by omega), st_lit 16, pk_mul]
  refine ⟨vp_in_nI hsd (by decide), vp_in_nI hsd (by decide), vp_in_nI hsd (by decide), vp_in_nI hsd (by decide), vp_in_nI hsd (by decide), ?_⟩
  have hS : ∀ u, u = gc_wI (gc_wI (gc_wI (gc_wI (gc_wI (gc_wF (gc_wF (gc_wF t 67 43 0) 67 20 (nI (1 - lv))) 67 21 (nI (16 * (1 - lv)))) 80 (1 - lv) 0) 83 (1 - lv) 0) 86 (1 - lv) 0) 90 (1 - lv) 0) 93 (1 - lv) 0 → fr Arf Brf s u ∧ kpR (1 - (1 - lv)) s u ∧ gc_F u 67 3 = 0 ∧ zU b n (TrN b n) (1 - lv) (cnt4 W0) [] u 0 W0 none u := by
    intro u e
    have g : fr Arf Brf s u := by
      rw [e]
      exact fr_wI rfl (fr_wI rfl (fr_wI rfl (fr_wI rfl (fr_wI rfl (fr_wF rfl (fr_wF rfl (fr_wF rfl (fr_up t2 (fun q k z => Arf_iff.mpr (by have := Abg_iff.mp z; omega)) (fun a z => Brf_iff.mpr (by have := Bbg_iff.mp z; omega))))))))))
    have k0 : kpR (1 - (1 - lv)) s t := fun a k hk => by
      have ha : Bbg a = false := bf fun z => by
        have := Bbg_iff.mp z
        have : wid a = 0 := by
          unfold wid
          rw [if_pos (by omega)]
        omega
      rw [fr_I t2 ha, fr_J t2 ha]
      exact ⟨rfl, rfl⟩
    have e1 : ∀ x : Nat, x = 1 * x + 0 := fun x => by omega
    have kp : kpR (1 - (1 - lv)) s u := by
      rw [e]
      exact kp_wI' hsd (kp_wI' hsd (kp_wI' hsd (kp_wI' hsd (kp_wI' hsd (kp_wF (kp_wF (kp_wF k0))) (k' := 0) (by decide) (e1 _)) (k' := 0) (by decide) (e1 _)) (k' := 0) (by decide) (e1 _)) (k' := 0) (by decide) (e1 _)) (k' := 0) (by decide) (e1 _)
    have hFu : ∀ k, k ≠ 43 → k ≠ 20 → k ≠ 21 → gc_F u 67 k = gc_F t 67 k := fun k a1 a2 a3 => by
      rw [e]
      show gc_F (gc_wF (gc_wF (gc_wF t 67 43 0) 67 20 (nI (1 - lv))) 67 21 (nI (16 * (1 - lv)))) 67 k = _
      rw [F_ne _ _ (Or.inr a3), F_ne _ _ (Or.inr a2), F_ne _ _ (Or.inr a1)]
    have hIu : ∀ a, a < 80 → gc_I u a = gc_I t a := fun a ha => by
      rw [e, I_na _ _ (by omega), I_na _ _ (by omega), I_na _ _ (by omega), I_na _ _ (by omega), I_na _ _ (by omega)]
      rfl
    have c93 : gc_I u 93 (1 - lv) = 0 := by rw [e, I_eq]
    have c90 : gc_I u 90 (1 - lv) = 0 := by rw [e, I_ne _ _ (Or.inl (by decide)), I_eq]
    have c86 : gc_I u 86 (1 - lv) = 0 := by rw [e, I_ne _ _ (Or.inl (by decide)), I_ne _ _ (Or.inl (by decide)), I_eq]
    have c83 : gc_I u 83 (1 - lv) = 0 := by rw [e, I_ne _ _ (Or.inl (by decide)), I_ne _ _ (Or.inl (by decide)), I_ne _ _ (Or.inl (by decide)), I_eq]
    have c80 : gc_I u 80 (1 - lv) = 0 := by rw [e, I_ne _ _ (Or.inl (by decide)), I_ne _ _ (Or.inl (by decide)), I_ne _ _ (Or.inl (by decide)), I_ne _ _ (Or.inl (by decide)), I_eq]
    have f43 : gc_F u 67 43 = 0 := by
      rw [e]
      show gc_F (gc_wF (gc_wF (gc_wF t 67 43 0) 67 20 (nI (1 - lv))) 67 21 (nI (16 * (1 - lv)))) 67 43 = _
      rw [F_ne _ _ (Or.inr (by decide)), F_ne _ _ (Or.inr (by decide)), F_eq]
    have f20 : gc_F u 67 20 = nI (1 - lv) := by
      rw [e]
      show gc_F (gc_wF (gc_wF (gc_wF t 67 43 0) 67 20 (nI (1 - lv))) 67 21 (nI (16 * (1 - lv)))) 67 20 = _
      rw [F_ne _ _ (Or.inr (by decide)), F_eq]
    have f21 : gc_F u 67 21 = nI (16 * (1 - lv)) := by
      rw [e]
      exact F_eq (gc_wF (gc_wF t 67 43 0) 67 20 (nI (1 - lv))) 67 21 _
    refine ⟨g, kp, (hFu 3 (by decide) (by decide) (by decide)).trans v3, ⟨fr_refl u, kp_refl u⟩, rpw_of t1 (hFu 12 (by decide) (by decide) (by decide)) (hIu 71 (by decide)) (hIu 72 (by decide)) (hIu 73 (by decide)) (by rw [e]; rfl), ⟨fr_refl u, kp_refl u⟩, ⟨(hFu 14 (by decide) (by decide) (by decide)).trans v14, f43⟩, ⟨hsd, f20, (hFu 13 (by decide) (by decide) (by decide)).trans v13⟩, Or.inl ⟨rfl, (hFu 16 (by decide) (by decide) (by decide)).trans v16⟩, ⟨c80, c83, c86, c90, c93⟩, ⟨[], ⟨hsd, Nat.zero_le _, fun k e he => absurd he (by simp)⟩, f21, fun e he => absurd he (by simp), Nat.zero_le _, fun _ => rfl⟩, fun _ => ⟨fun g hg => absurd hg (Nat.not_lt_zero _), fun g hg => absurd hg (Nat.not_lt_zero _), fun g hg => absurd hg (Nat.not_lt_zero _), fun g hg => absurd hg (Nat.not_lt_zero _), fun g hg => absurd hg (Nat.not_lt_zero _)⟩⟩
  have hS0 := hS _ rfl
  revert hS0
  generalize gc_wI (gc_wI (gc_wI (gc_wI (gc_wI (gc_wF (gc_wF (gc_wF t 67 43 0) 67 20 (nI (1 - lv))) 67 21 (nI (16 * (1 - lv)))) 80 (1 - lv) 0) 83 (1 - lv) 0) 86 (1 - lv) 0) 90 (1 - lv) 0) 93 (1 - lv) 0 = u
  intro ⟨gu, ku, u3, hu⟩
  have ekl : 1 - (1 - lv) = lv := by omega
  have gR : ∀ {w : gc_St}, frR (1 - lv) u w → fr Arf Brf s w ∧ kpR lv s w ∧ gc_F w 67 3 = 0 := by
    intro w hw
    have h2' := kp_trans ku hw.2
    rw [ekl] at h2'
    exact ⟨fr_trans gu (fr_up hw.1 (fun q k z => Arf_iff.mpr (by have := AzU_iff.mp z; omega)) (fun a z => Brf_iff.mpr (by have := BzU_iff.mp z; omega))), h2', (fr_F hw.1 rfl).trans u3⟩
  refine hX.2.2 P _ u u _ hP hm (by omega) hu ?_
  cases res with
  | inl e =>
    obtain ⟨x, p⟩ := e
    intro w hw
    obtain ⟨a1, a2, a3⟩ := gR hw.1
    have hn14 := zH_n hw
    refine b_X11_read_102 hP hm ⟨fun z => absurd z hn14.2.1, fun _ => b_X11_read_132 hP hm ⟨fun z => absurd z hn14.2.1, fun _ => ?_⟩⟩
    rw [hw.2.1.1, hw.2.1.2]
    exact h1 _ x p rfl (fr_wF rfl a1) a2 ((F_ne _ _ (Or.inr (by decide))).trans a3) (F_eq _ _ _ _)
  | inr e =>
    obtain ⟨i', W', r', nl'⟩ := e
    intro w hw
    obtain ⟨a1, a2, a3⟩ := gR hw.1
    have h14 : gc_F w 67 14 = 0 := hw.2.2.2.1.1
    cases hr' : r' with
    | some v =>
      rcases hw.2.2.2.2.2.1 with ⟨z, _⟩ | ⟨v', z, y1, y2, y3, y4, y5⟩
      · have z' : r' = none := z
        rw [hr'] at z'
        exact absurd z' (by simp)
      · have z' : r' = some v' := z
        rw [hr', Option.some.injEq] at z'
        rw [← z'] at y1 y2 y3 y4 y5
        have hne : ¬ nI v.1 ≤ 0 := nI_nle y1 y2
        refine b_X11_read_102 hP hm ⟨fun _ => ⟨fun z => absurd z (by rw [y4]; exact hne), fun _ => b_X11_read_132 hP hm ⟨fun _ => ⟨fun z => absurd z (by rw [y4]; exact hne), fun _ => ?_⟩, fun z => absurd (by rw [h14]; decide) z⟩⟩, fun z => absurd (by rw [h14]; decide) z⟩
        rw [y4, y5]
        exact h2 _ (i', W', r', nl') v rfl hr' (fr_wF rfl a1) a2 ((F_ne _ _ (Or.inr (by decide))).trans a3) (F_eq _ _ _ _)
    | none =>
      rcases hw.2.2.2.2.2.1 with ⟨_, y3⟩ | ⟨v', z, _⟩
      · obtain ⟨nx, q1, q2, q3, q4, q5⟩ := hw.2.2.2.2.2.2.2.1
        have q5' : nx = nl' := q5 hr'
        rw [q5'] at q1 q2
        have hlw : lwR W' (1 - lv) w := hw.2.2.2.2.2.2.2.2 hr'
        have hcn : cnR W' (1 - lv) w := hw.2.2.2.2.2.2.1
        have h20 : gc_F w 67 20 = nI (1 - lv) := hw.2.2.2.2.1.2.1
        obtain ⟨⟨c0, c1, c2, c3, c4⟩, _, hno⟩ := hX.1
        have c0' : ld_g W' ≤ 4 := c0
        have c1' : ld_o W' ≤ 3 := c1
        have c2' : ld_b W' ≤ 3 := c2
        have hst : ∀ g, g < ld_g W' → W' 11 g ≤ 3 := (hno hr').2.2.2
        refine b_X11_read_102 hP hm ⟨fun _ => ⟨fun _ => b_X11_read_132 hP hm ⟨fun _ => ⟨fun _ => ?_, fun z => absurd (by rw [y3]; decide) z⟩, fun z => absurd (by rw [h14]; decide) z⟩, fun z => absurd (by rw [y3]; decide) z⟩, fun z => absurd (by rw [h14]; decide) z⟩
        rw [h20, q2, nI_clamp (by omega)]
        refine ⟨vp_in_nI hsd (by decide), ?_⟩
        -- what there is, by the GROUNDS
        have aF : ∀ k, (k = 18 ∨ k = 19 ∨ k = 49) → Arg 67 k = true := fun k hk => Arg_iff.mpr ⟨rfl, by omega⟩
        have g0 : fr Arg Brg s w := fr_up a1 (fun q k z => Arg_iff.mpr (by have := Arf_iff.mp z; omega)) (fun a z => Brg_iff.mpr (by have := Brf_iff.mp z; omega))
        have ini : ∀ v, v = gc_wF (gc_wI (gc_wF (gc_wF w 67 18 (-1)) 67 19 (nI (1 - lv))) 79 (1 - lv) (nI (16 * (1 - lv) + nl'.length))) 67 49 0 → fr Arg Brg s v ∧ gc_F v 67 49 = 0 ∧ gc_F v 67 19 = nI (1 - lv) ∧ gc_F v 67 18 = -1 ∧ gc_F v 67 3 = 0 ∧ gc_I v 79 (1 - lv) = nI (16 * (1 - lv) + nl'.length) ∧ (∀ a, a ≠ 79 → gc_I v a = gc_I w a) ∧ gc_J v = gc_J w := by
          intro v e
          rw [e]
          refine ⟨fr_wF (aF 49 (by omega)) (fr_wI rfl (fr_wF (aF 19 (by omega)) (fr_wF (aF 18 (by omega)) g0))), F_eq _ _ _ _, ?_, ?_, ?_, I_eq _ _ _ _, fun a ha => I_na (gc_wF (gc_wF w 67 18 (-1)) 67 19 (nI (1 - lv))) _ ha, rfl⟩
          · rw [F_ne _ _ (Or.inr (by decide))]
            exact F_eq (gc_wF w 67 18 (-1)) 67 19 _
          · rw [F_ne _ _ (Or.inr (by decide))]
            show gc_F (gc_wF (gc_wF w 67 18 (-1)) 67 19 (nI (1 - lv))) 67 18 = -1
            rw [F_ne _ _ (Or.inr (by decide)), F_eq]
          · rw [F_ne _ _ (Or.inr (by decide))]
            show gc_F (gc_wF (gc_wF w 67 18 (-1)) 67 19 (nI (1 - lv))) 67 3 = 0
            rw [F_ne _ _ (Or.inr (by decide)), F_ne _ _ (Or.inr (by decide))]
            exact a3
        have ini0 := ini _ rfl
        revert ini0
        generalize gc_wF (gc_wI (gc_wF (gc_wF w 67 18 (-1)) 67 19 (nI (1 - lv))) 79 (1 - lv) (nI (16 * (1 - lv) + nl'.length))) 67 49 0 = v
        intro ⟨j1, j2, j3, j4, j5, j6, j7, j8⟩
        have lwv : ∀ {z : gc_St}, (∀ a, a ≠ 79 → a ≠ 112 → gc_I z a = gc_I w a) → lwR W' (1 - lv) z ∧ cnR W' (1 - lv) z := fun hz => ⟨lwR_of hlw (fun a b1 b2 => hz a (by omega) (by omega)), cnR_of hcn (fun a b1 b2 => hz a (by omega) (by omega))⟩
        -- no SLOT holds anything
        have slots : ∀ m k z, k + m = 3 → fr Arg Brg s z → gc_F z 67 19 = nI (1 - lv) → gc_F z 67 18 = -1 → gc_F z 67 3 = 0 → gc_I z 79 (1 - lv) = nI (16 * (1 - lv) + nl'.length) → (∀ a, a ≠ 79 → a ≠ 112 → gc_I z a = gc_I w a) → gc_J z = gc_J w → (gc_F z 67 49 = nI (told W' (ld_g W')) ∧ gc_F z 67 50 = nI (2 ^ ld_o W' - 1) ∧ gc_F z 67 51 = nI (2 ^ ld_b W' - 1) ∧ gc_F z 67 53 = -1 ∧ gc_F z 67 77 = 0 ∧ gc_F z 67 68 = 0) → (∀ j, j < k → gc_I z 112 j = 0) → gc_T P d 0 0 190 283 [.ref 67, .int (nI k)] [] z Q := by
          intro m
          induction m with
          | zero =>
            intro k z hk z1 z2 z3 z4 z5 z6 z7 z8 z9
            obtain rfl : k = 3 := by omega
            refine b_X11_read_283 hP hm ⟨fun _ => h3 z (i', W', r', nl') rfl hr' z1 z4 z3 ⟨z2, (lwv z6).2, (lwv z6).1⟩ ⟨nmR_of q1 (by rw [z7]) (z6 77 (by decide) (by decide)) (z6 78 (by decide) (by decide)), z5⟩ z8 z9, fun y => absurd (by decide) y⟩
          | succ m ih =>
            intro k z hk z1 z2 z3 z4 z5 z6 z7 z8 z9
            refine b_X11_read_283 hP hm (pk_le 3 k (fun y => by omega) (fun _ => ⟨vp_in_nI (by omega) (by decide), ?_⟩))
            rw [nI_1, nI_clamp (by omega)]
            refine ih (k + 1) _ (by omega) (fr_wI rfl z1) z2 z3 z4 ?_ (fun a b1 b2 => (I_na _ _ b2).trans (z6 a b1 b2)) z7 z8 (fun j hj => ?_)
            · rw [I_ne _ _ (Or.inl (by decide))]
              exact z5
            · by_cases e : j = k
              · rw [e, I_eq]
                rfl
              · rw [I_ne _ _ (Or.inr e)]
                exact z9 j (by omega)
        have loop : ∀ m g z, g + m = ld_g W' → fr Arg Brg s z → gc_F z 67 19 = nI (1 - lv) → gc_F z 67 18 = -1 → gc_F z 67 3 = 0 → gc_I z 79 (1 - lv) = nI (16 * (1 - lv) + nl'.length) → (∀ a, a ≠ 79 → gc_I z a = gc_I w a) → gc_J z = gc_J w → gc_F z 67 49 = nI (told W' g) → gc_T P d 0 0 190 187 [.ref 67, .int (nI g)] [] z Q := by
          intro m
          induction m with
          | zero =>
            intro g z hg z1 z2 z3 z4 z5 z6 z7 z8
            obtain rfl : g = ld_g W' := by omega
            have hcz := (lwv (fun a b1 _ => z6 a b1)).2
            refine b_X11_read_187 hP hm ?_
            rw [z2, nI_clamp (by omega), hcz.1, hcz.2.1, hcz.2.2.1]
            refine ⟨vp_in_nI hsd (by decide), pk_le (ld_g W') (ld_g W') (fun _ => ⟨vp_in_nI hsd (by decide), vp_in_nI hsd (by decide), ?_⟩) (fun y => by omega)⟩
            rw [bits_m1 c1', bits_m1 c2']
            have aG : ∀ k, (k = 50 ∨ k = 51 ∨ k = 53 ∨ k = 77 ∨ k = 68) → Arg 67 k = true := fun k hk => Arg_iff.mpr ⟨rfl, by omega⟩
            have hne : ∀ k, k ≠ 50 → k ≠ 51 → k ≠ 53 → k ≠ 77 → k ≠ 68 → gc_F (gc_wF (gc_wF (gc_wF (gc_wF (gc_wF z 67 50 (nI (2 ^ ld_o W' - 1))) 67 51 (nI (2 ^ ld_b W' - 1))) 67 53 (-1)) 67 77 0) 67 68 0) 67 k = gc_F z 67 k := fun k b1 b2 b3 b4 b5 => by
              rw [F_ne _ _ (Or.inr b5), F_ne _ _ (Or.inr b4), F_ne _ _ (Or.inr b3), F_ne _ _ (Or.inr b2), F_ne _ _ (Or.inr b1)]
            refine slots 3 0 _ (by omega) (fr_wF (aG _ (by omega)) (fr_wF (aG _ (by omega)) (fr_wF (aG _ (by omega)) (fr_wF (aG _ (by omega)) (fr_wF (aG _ (by omega)) z1))))) ((hne 19 (by decide) (by decide) (by decide) (by decide) (by decide)).trans z2) ((hne 18 (by decide) (by decide) (by decide) (by decide) (by decide)).trans z3) ((hne 3 (by decide) (by decide) (by decide) (by decide) (by decide)).trans z4) z5 (fun a b1 _ => z6 a b1) z7 ⟨(hne 49 (by decide) (by decide) (by decide) (by decide) (by decide)).trans z8, ?_, ?_, ?_, ?_, F_eq _ _ _ _⟩ (fun j hj => absurd hj (Nat.not_lt_zero _))
            · rw [F_ne _ _ (Or.inr (by decide)), F_ne _ _ (Or.inr (by decide)), F_ne _ _ (Or.inr (by decide)), F_ne _ _ (Or.inr (by decide)), F_eq]
            · rw [F_ne _ _ (Or.inr (by decide)), F_ne _ _ (Or.inr (by decide)), F_ne _ _ (Or.inr (by decide)), F_eq]
            · rw [F_ne _ _ (Or.inr (by decide)), F_ne _ _ (Or.inr (by decide)), F_eq]
            · rw [F_ne _ _ (Or.inr (by decide)), F_eq]
          | succ m ih =>
            intro g z hg z1 z2 z3 z4 z5 z6 z7 z8
            obtain ⟨hlz, hcz⟩ := lwv (z := z) (fun a b1 _ => z6 a b1)
            have hs3 := hst g (by omega)
            refine b_X11_read_187 hP hm ?_
            rw [z2, nI_clamp (by omega), hcz.1, st_lit 4, pk_mul, nI_add, nI_clamp (by omega), (hlz.1 g (by omega)).2, z8, nI_1]
            refine ⟨vp_in_nI hsd (by decide), pk_le (ld_g W') g (fun y => by omega) (fun _ => ⟨vp_in_nI (by omega) (by decide), ?_⟩)⟩
            have h4 : (4 : Nat) ^ g ≤ 64 := Nat.le_trans (Nat.pow_le_pow_right (by decide) (by omega : g ≤ 3)) (by decide)
            have h5 : W' 11 g * 4 ^ g ≤ 3 * 64 := Nat.mul_le_mul hs3 h4
            have esh : nI (W' 11 g) <<< (((2 : Int32) * nI g) &&& 31) = nI (W' 11 g * 4 ^ g) := by
              rw [st_lit 2, pk_mul, st_shl (by omega) (by rw [Nat.pow_mul]; show W' 11 g * 4 ^ g < 2 ^ 32; omega), Nat.pow_mul]
            rw [esh, nI_add]
            refine ih (g + 1) _ (by omega) (fr_wF (aF 49 (by omega)) z1) ((F_ne _ _ (Or.inr (by decide))).trans z2) ((F_ne _ _ (Or.inr (by decide))).trans z3) ((F_ne _ _ (Or.inr (by decide))).trans z4) z5 z6 z7 (F_eq _ _ _ _)
        exact loop (ld_g W') 0 v (by omega) j1 j3 j4 j5 j6 j7 j8 j2
      · have z' : r' = some v' := z
        rw [hr'] at z'
        exact absurd z' (by simp)
end Yb
