/-! judge, by both. -/
abbrev gRes : Type := (Nat × Nat) ⊕ (Nat × Nat × Nat)
def AJp (q k : Nat) : Bool := AJ q k || (Nat.beq q 28 && (Nat.ble 16 k && Nat.ble k 19))
theorem AJp_iff {q k : Nat} : AJp q k = true ↔ (q = 3 ∨ (q = 28 ∧ 5 ≤ k ∧ k ≤ 15)) ∨ (q = 28 ∧ 16 ≤ k ∧ k ≤ 19) := by
  unfold AJp
  simp only [Bool.or_eq_true, Bool.and_eq_true, Nat.beq_eq, Nat.ble_eq, AJ_iff]
def AKp (q k : Nat) : Bool := AK q k || (Nat.beq q 67 && (Nat.beq k 18 || (Nat.ble 68 k && Nat.ble k 71)))
def AKq (q k : Nat) : Bool := AK q k || (Nat.beq q 67 && Nat.beq k 18)
theorem AKp_iff {q k : Nat} : AKp q k = true ↔ (q = 67 ∧ ((12 ≤ k ∧ k ≤ 15) ∨ (64 ≤ k ∧ k ≤ 67) ∨ k = 73)) ∨ (q = 67 ∧ (k = 18 ∨ (68 ≤ k ∧ k ≤ 71))) := by
  unfold AKp
  simp only [Bool.or_eq_true, Bool.and_eq_true, Nat.beq_eq, Nat.ble_eq, AK_iff]
theorem AKq_iff {q k : Nat} : AKq q k = true ↔ (q = 67 ∧ ((12 ≤ k ∧ k ≤ 15) ∨ (64 ≤ k ∧ k ≤ 67) ∨ k = 73)) ∨ (q = 67 ∧ k = 18) := by
  unfold AKq
  simp only [Bool.or_eq_true, Bool.and_eq_true, Nat.beq_eq, AK_iff]
/-- passed: how many steps, how deep, how many IDLE -/
def psE (e : Nat × Nat × Nat) : Option (Int32 × Int32 × Int32) := some (nI e.1, nI e.2.1, nI e.2.2)
theorem psC_E {e : Nat × Nat × Nat} {t : gc_St} (h1 : gc_F t 28 16 = 1) (h2 : gc_F t 28 17 = nI e.1) (h3 : gc_F t 28 18 = nI e.2.1) (h4 : gc_F t 28 19 = nI e.2.2) : psC (psE e) t := Or.inr ⟨_, rfl, by rw [h1]; decide, h2, h3, h4⟩
theorem psR_E {e : Nat × Nat × Nat} {t : gc_St} (h1 : gc_F t 67 68 = 1) (h2 : gc_F t 67 69 = nI e.1) (h3 : gc_F t 67 70 = nI e.2.1) (h4 : gc_F t 67 71 = nI e.2.2) : psR (psE e) t := Or.inr ⟨_, rfl, by rw [h1]; decide, h2, h3, h4⟩
def jdX (b : Nat → Nat) (n L lv : Nat) (W : ld_W) (nl : List (List Nat × Nat × Nat)) (o sk bs r : Nat) (res : gRes) : Prop :=
  (∀ (P : gc_Pr) (d : Nat) (s s0 : gc_St) (Q : gc_TQ), gc_Cl P → gc_Mo P → 8 ≤ d → jc b n (TcN b n) L W nl s0 0 s → gc_F s 49 0 = nI sk → gc_F s 49 1 = nI o → gc_F s 49 2 = nI bs → (∀ e, res = .inl e → ∀ t, jF s0 e.1 e.2 t → Q none t) → (∀ e, res = .inr e → ∀ t, fr AJp BJ s0 t → psC (psE e) t → (gc_F t 3 12 = 0 ∧ gc_F t 3 14 = 0 ∧ gc_F t 3 15 = -1) → Q none t) → gc_T P d 0 0 74 0 [.ref 28, .ref 49, .int (nI r), gc_u, gc_u] [] s Q) ∧
  (∀ (P : gc_Pr) (d : Nat) (s s0 : gc_St) (Q : gc_TQ) (l1 : Int32), gc_Cl P → gc_Mo P → 8 ≤ d → kA b n (TrN b n) lv W nl o s0 0 [(sp3 r sk bs, 1)] [] 0 0 0 s → (∀ e, res = .inl e → ∀ t, fr AKq BK s0 t → gc_F t 67 18 = nI e.2 → 1 ≤ e.1 → e.1 < 9 → Q (some (.int (nI e.1))) t) → (∀ e, res = .inr e → ∀ t, fr AKp BK s0 t → gc_F t 67 18 = -1 → psR (psE e) t → Q (some (.int 0)) t) → gc_T P d 0 0 260 54 [.ref 67, .int l1] [] s Q)
section Jd
variable {b : Nat → Nat} {n L lv o sk bs r : Nat} {nl : List (List Nat × Nat × Nat)} {W : ld_W}
theorem jd_ex (hlt : ∀ j, b j < 256) (hnd : ndN nl) (hnl : nli W nl) (hok : ld_ok W) (ho : o < 8) (hr : r < ld_p W) (hsk : sk < ld_N W) (hbs : bs < ld_B W) : ∃ res, jdX b n L lv W nl o sk bs r res := by
  have h0 : skI W [(sp3 r sk bs, 1)] [] := by
    refine ⟨fun k e he => ?_, Or.inl rfl, fun k hk => absurd hk (Nat.not_lt_zero k)⟩
    cases k with
    | zero =>
      have : (sp3 r sk bs, 1) = e := by simpa using he
      rw [← this]
      exact ⟨⟨r, sk, bs, rfl, hr, hsk, hbs⟩, Nat.le_refl _, (by decide : 1 ≤ 61)⟩
    | succ k => exact absurd he (by simp)
  obtain ⟨lr, p1, p2⟩ := j_loop (b := b) (n := n) (Tc := TcN b n) (Tr := TrN b n) (L := L) (lv := lv) hlt hnd hnl hok ho 401 0 [(sp3 r sk bs, 1)] [] 0 0 0 (by omega) h0 (by decide)
  -- the class, up to the end of the steps
  have toC : ∀ (P : gc_Pr) (d : Nat) (s s0 : gc_St) (Q : gc_TQ), gc_Cl P → gc_Mo P → 8 ≤ d → jc b n (TcN b n) L W nl s0 0 s → gc_F s 49 0 = nI sk → gc_F s 49 1 = nI o → gc_F s 49 2 = nI bs → (∀ e, lr = .inl e → ∀ t, jF s0 e.1 e.2 t → Q none t) → (∀ e, lr = .inr e → ∀ t l4, jA b n (TcN b n) L W nl s0 o e.1 [] [] e.2.1 e.2.2.1 e.2.2.2 t → gc_T P d 0 0 74 87 [.ref 28, .ref 49, .int (nI r), .int 1, .int l4] [] t Q) → gc_T P d 0 0 74 0 [.ref 28, .ref 49, .int (nI r), gc_u, gc_u] [] s Q := by
    intro P d s s0 Q hP hm hd h e0 e1 e2 hb hg
    refine b_X6_check_0 hP hm io49 ⟨by omega, ?_⟩
    have hS : ∀ u, u = gc_wF (gc_wF (gc_wF (gc_wF (gc_wF (gc_wF (gc_wF s 28 7 (gc_F s 49 1)) 28 6 0) 28 5 0) 28 13 0) 28 14 0) 28 15 0) 28 11 0 → jA b n (TcN b n) L W nl s0 o 0 [] [] 0 0 0 u ∧ gc_F u 28 11 = nI 0 ∧ gc_F u 49 0 = nI sk ∧ gc_F u 49 2 = nI bs := by
      intro u e
      have g : fr (fun q k => Nat.beq q 28 && (Nat.ble 5 k && Nat.ble k 15)) BJ s u := by
        rw [e]
        exact fr_wF rfl (fr_wF rfl (fr_wF rfl (fr_wF rfl (fr_wF rfl (fr_wF rfl (fr_wF rfl (fr_refl s)))))))
      have h49 : ∀ k, gc_F u 49 k = gc_F s 49 k := fun k => fr_F g rfl
      refine ⟨⟨jc_28 h g (fun q k z => by rw [Bool.and_eq_true, Bool.and_eq_true, Nat.beq_eq, Nat.ble_eq, Nat.ble_eq] at z; omega), ⟨?_, fun k x hk => absurd hk (by simp)⟩, ⟨?_, fun k x hk => absurd hk (by simp)⟩, ?_, ?_, ?_, ?_⟩, ?_, (h49 0).trans e0, (h49 2).trans e2⟩
      · rw [e, F_ne _ _ (Or.inr (by decide)), F_ne _ _ (Or.inr (by decide)), F_ne _ _ (Or.inr (by decide)), F_ne _ _ (Or.inr (by decide)), F_ne _ _ (Or.inr (by decide)), F_eq]
        rfl
      · rw [e, F_ne _ _ (Or.inr (by decide)), F_ne _ _ (Or.inr (by decide)), F_ne _ _ (Or.inr (by decide)), F_ne _ _ (Or.inr (by decide)), F_eq]
        rfl
      · rw [e, F_ne _ _ (Or.inr (by decide)), F_ne _ _ (Or.inr (by decide)), F_ne _ _ (Or.inr (by decide)), F_eq]
        rfl
      · rw [e, F_ne _ _ (Or.inr (by decide)), F_ne _ _ (Or.inr (by decide)), F_eq]
        rfl
      · rw [e, F_ne _ _ (Or.inr (by decide)), F_eq]
        rfl
      · rw [e, F_ne _ _ (Or.inr (by decide)), F_ne _ _ (Or.inr (by decide)), F_ne _ _ (Or.inr (by decide)), F_ne _ _ (Or.inr (by decide)), F_ne _ _ (Or.inr (by decide)), F_ne _ _ (Or.inr (by decide)), F_eq]
        exact e1
      · rw [e, F_eq]
        rfl
    have hS0 := hS _ rfl
    revert hS0
    generalize gc_wF (gc_wF (gc_wF (gc_wF (gc_wF (gc_wF (gc_wF s 28 7 (gc_F s 49 1)) 28 6 0) 28 5 0) 28 13 0) 28 14 0) 28 15 0) 28 11 0 = u
    intro ⟨hu, u11, u0, u2⟩
    rw [u0, u2]
    refine j_open hP hm hu (p := (gc_F u 28 8).toBitVec.toNat) (sk := (gc_F u 28 9).toBitVec.toNat) (bs := (gc_F u 28 10).toBitVec.toNat) (lvl := 0) (bg := (gc_F u 28 12).toBitVec.toNat) ⟨nI_any _, nI_any _, nI_any _, u11, nI_any _⟩ (by decide) fun t t1 _ => ?_
    show gc_T P d 0 0 74 57 [.ref 28, .ref 49, .int (nI r), .int 1, .int (nI 0)] [] t Q
    refine p1 P d t s0 Q (nI r) 0 hP hm (by omega) t1 (Nat.le_refl _) (fun e he w l4 w1 => ?_) hg
    exact b_X6_check_87 hP hm io49 ⟨fun _ => b_X6_check_117 hP hm io49 ⟨fun _ => hb e he w w1, fun z => absurd rfl z⟩, fun z => absurd rfl z⟩
  -- the reference: with a fault
  have f99 : ∀ (P : gc_Pr) (d : Nat) (s0 : gc_St) (Q : gc_TQ) (l1 : Int32), gc_Cl P → gc_Mo P → ∀ x y t, fr AK BK s0 t → mbl t (nI x) (nI y) → 1 ≤ x → x < 9 → (∀ t, fr AKq BK s0 t → gc_F t 67 18 = nI y → 1 ≤ x → x < 9 → Q (some (.int (nI x))) t) → gc_T P d 0 0 260 99 [.ref 67, .int l1] [] t Q := by
    intro P d s0 Q l1 hP hm x y t t1 t2 t3 t4 hq
    have hn : ¬ gc_F t 67 14 ≤ 0 := by
      rw [t2.1]
      exact nI_nle t3 (by omega)
    refine b_X11_judge_99 hP hm ⟨fun z => absurd z hn, fun _ => b_X11_judge_115 hP hm ⟨fun z => absurd z hn, fun _ => ?_⟩⟩
    rw [t2.1]
    exact hq _ (fr_wF (AKq_iff.mpr (Or.inr ⟨rfl, rfl⟩)) (fr_up t1 (fun q k z => AKq_iff.mpr (Or.inl (AK_iff.mp z))) (fun a z => z))) ((F_eq _ _ _ _).trans t2.2) t3 t4
  have f75 : ∀ (P : gc_Pr) (d : Nat) (s0 : gc_St) (Q : gc_TQ) (l1 : Int32), gc_Cl P → gc_Mo P → 1 ≤ d → ∀ x y t, kF' s0 x y t → (∀ t, fr AKq BK s0 t → gc_F t 67 18 = nI y → 1 ≤ x → x < 9 → Q (some (.int (nI x))) t) → gc_T P d 0 0 260 75 [.ref 67, .int l1] [] t Q := by
    intro P d s0 Q l1 hP hm hd x y t t1 hq
    obtain ⟨⟨t2, c, c1, c2⟩, t3, t4, t5⟩ := t1
    refine b_X11_judge_75 hP hm ⟨hd, k_endsAny hP hm c1 c2 fun u u1 => ?_⟩
    have u14 : gc_F u 67 14 = nI x := (fr_F u1 rfl).trans t3.1
    have u15 : gc_F u 67 15 = nI y := (fr_F u1 rfl).trans t3.2
    have g : fr AK BK s0 u := fr_trans t2 (fr_up u1 (fun q k z => AK_iff.mpr (by
      unfold A67c at z
      rw [Bool.and_eq_true, Bool.or_eq_true, Nat.beq_eq, Nat.beq_eq, Nat.beq_eq] at z
      omega)) (fun a z => (B0_f z).elim))
    exact ⟨fun _ => f99 P d s0 Q l1 hP hm x y u g ⟨u14, u15⟩ t4 t5 hq, fun z => absurd z (by rw [u14]; exact nI_ne0 t4 (by omega))⟩
  cases lr with
  | inl e =>
    refine ⟨.inl e, fun P d s s0 Q hP hm hd h e0 e1 e2 hb hg => toC P d s s0 Q hP hm hd h e0 e1 e2 (fun e' he' => hb e' (congrArg _ (by simpa using he'))) (fun e' he' => absurd he' (by simp)), fun P d s s0 Q l1 hP hm hd h hb hg => p2 P d s s0 Q l1 hP hm (by omega) h (fun e' he' t t1 => ?_) (fun e' he' => absurd he' (by simp))⟩
    exact f75 P d s0 Q l1 hP hm (by omega) _ _ t t1 (hb e' (congrArg _ (by simpa using he')))
  | inr e =>
    obtain ⟨i, st, dp, id⟩ := e
    -- the reference, up to whether the text ends
    have toR : ∀ (P : gc_Pr) (d : Nat) (s s0 : gc_St) (Q : gc_TQ) (l1 : Int32), gc_Cl P → gc_Mo P → 8 ≤ d → kA b n (TrN b n) lv W nl o s0 0 [(sp3 r sk bs, 1)] [] 0 0 0 s → (∀ t, kA b n (TrN b n) lv W nl o s0 i [] [] st dp id t → gc_T P (d - 1) 0 0 184 0 [.ref 67, .int 0] [] t (fun r3 s4 => gc_ri r3 fun x5 => (¬ x5 = 0 → (gc_T P d 0 0 260 99 [.ref 67, .int l1] [] s4 Q)) ∧ (x5 = 0 → (1 ≤ d ∧ gc_T P (d - 1) 0 0 185 0 [.ref 67, .int 1] [] s4 (fun r6 s7 => gc_rv r6 (gc_T P d 0 0 260 99 [.ref 67, .int l1] [] s7 Q)))))) → gc_T P d 0 0 260 54 [.ref 67, .int l1] [] s Q := by
      intro P d s s0 Q l1 hP hm hd h hk
      refine p2 P d s s0 Q l1 hP hm (by omega) h (fun e' he' => absurd he' (by simp)) (fun e' he' t t1 => ?_)
      have ee : (i, st, dp, id) = e' := by simpa using he'
      rw [← ee] at t1
      refine b_X11_judge_75 hP hm ⟨by omega, k_row0 hP hm t1 (by decide) (fun k hk => absurd hk (Nat.not_lt_zero k)) fun u u1 => ⟨fun z => absurd u1.1.2.2.1.1 z, fun _ => ⟨by omega, hk u u1⟩⟩⟩
    by_cases hz : rk b n i = 0
    · refine ⟨.inr (st, dp, id), fun P d s s0 Q hP hm hd h e0 e1 e2 hb hg => toC P d s s0 Q hP hm hd h e0 e1 e2 (fun e' he' => absurd he' (by simp)) (fun e' he' t l4 t1 => ?_), fun P d s s0 Q l1 hP hm hd h hb hg => toR P d s s0 Q l1 hP hm hd h (fun t t1 => ?_)⟩
      · have ee : (i, st, dp, id) = e' := by simpa using he'
        rw [← ee] at t1
        refine b_X6_check_87 hP hm io49 ⟨fun z => absurd z (by decide), fun _ => ⟨by omega, sp_kindAhead hP hm t1.1.1 ⟨fun _ => b_X6_check_117 hP hm io49 ⟨fun z => absurd z (by decide), fun _ => ?_⟩, fun z => absurd ((kc_0 _).mpr hz) z⟩⟩⟩
        rw [t1.2.2.2.1, t1.2.2.2.2.1, t1.2.2.2.2.2.1]
        have aP : ∀ k, 16 ≤ k → k ≤ 19 → AJp 28 k = true := fun k h1 h2 => AJp_iff.mpr (Or.inr ⟨rfl, h1, h2⟩)
        refine hg _ rfl _ (fr_wF (aP _ (by decide) (by decide)) (fr_wF (aP _ (by decide) (by decide)) (fr_wF (aP _ (by decide) (by decide)) (fr_wF (aP _ (by decide) (by decide)) (fr_up t1.1.2.2.1 (fun q k z => AJp_iff.mpr (Or.inl (AJ_iff.mp z))) (fun a z => z)))))) (psC_E ?_ ?_ ?_ ?_) ⟨?_, ?_, ?_⟩
        · rw [F_ne _ _ (Or.inr (by decide)), F_ne _ _ (Or.inr (by decide)), F_ne _ _ (Or.inr (by decide)), F_eq]
        · rw [F_ne _ _ (Or.inr (by decide)), F_ne _ _ (Or.inr (by decide)), F_eq]
        · rw [F_ne _ _ (Or.inr (by decide)), F_eq]
        · rw [F_eq]
        · rw [F_ne _ _ (Or.inl (by decide)), F_ne _ _ (Or.inl (by decide)), F_ne _ _ (Or.inl (by decide)), F_ne _ _ (Or.inl (by decide))]
          exact t1.1.2.2.2.1.2.1
        · rw [F_ne _ _ (Or.inl (by decide)), F_ne _ _ (Or.inl (by decide)), F_ne _ _ (Or.inl (by decide)), F_ne _ _ (Or.inl (by decide))]
          exact t1.1.2.2.2.1.2.2.1
        · rw [F_ne _ _ (Or.inl (by decide)), F_ne _ _ (Or.inl (by decide)), F_ne _ _ (Or.inl (by decide)), F_ne _ _ (Or.inl (by decide))]
          exact t1.1.2.2.2.1.2.2.2
      · refine k_is hP hm t1.1 (fun _ => ⟨fun _ => b_X11_judge_99 hP hm ?_, fun z => absurd z (by decide)⟩) (fun z => absurd hz z)
        rw [t1.1.2.2.1.1]
        refine ⟨fun _ => b_X11_judge_115 hP hm ?_, fun z => absurd (by decide) z⟩
        rw [t1.1.2.2.1.1, t1.2.2.2.1, t1.2.2.2.2.1, t1.2.2.2.2.2]
        have aP : ∀ k, k = 18 ∨ (68 ≤ k ∧ k ≤ 71) → AKp 67 k = true := fun k h1 => AKp_iff.mpr (Or.inr ⟨rfl, h1⟩)
        refine ⟨fun _ => hg _ rfl _ (fr_wF (aP _ (by decide)) (fr_wF (aP _ (by decide)) (fr_wF (aP _ (by decide)) (fr_wF (aP _ (by decide)) (fr_wF (aP _ (by decide)) (fr_up t1.1.2.1.1 (fun q k z => AKp_iff.mpr (Or.inl (AK_iff.mp z))) (fun a z => z))))))) ?_ (psR_E ?_ ?_ ?_ ?_), fun z => absurd (by decide) z⟩
        · rw [F_ne _ _ (Or.inr (by decide)), F_ne _ _ (Or.inr (by decide)), F_ne _ _ (Or.inr (by decide)), F_ne _ _ (Or.inr (by decide)), F_eq]
        · rw [F_ne _ _ (Or.inr (by decide)), F_ne _ _ (Or.inr (by decide)), F_ne _ _ (Or.inr (by decide)), F_eq]
        · rw [F_ne _ _ (Or.inr (by decide)), F_ne _ _ (Or.inr (by decide)), F_eq]
        · rw [F_ne _ _ (Or.inr (by decide)), F_eq]
        · rw [F_eq]
    · refine ⟨.inl (1, tk_st b n i), fun P d s s0 Q hP hm hd h e0 e1 e2 hb hg => toC P d s s0 Q hP hm hd h e0 e1 e2 (fun e' he' => absurd he' (by simp)) (fun e' he' t l4 t1 => ?_), fun P d s s0 Q l1 hP hm hd h hb hg => toR P d s s0 Q l1 hP hm hd h (fun t t1 => ?_)⟩
      · have ee : (i, st, dp, id) = e' := by simpa using he'
        rw [← ee] at t1
        exact b_X6_check_87 hP hm io49 ⟨fun z => absurd z (by decide), fun _ => ⟨by omega, sp_kindAhead hP hm t1.1.1 ⟨fun z => absurd ((kc_0 _).mp z) hz, fun _ => ⟨by omega, sp_placeAhead hP hm t1.1.1 ⟨by omega, j_blame hP hm (x := 1) (by decide) t1.1.2.2.1 fun u u1 => b_X6_check_117 hP hm io49 ⟨fun _ => hb _ rfl u u1, fun z => absurd rfl z⟩⟩⟩⟩⟩⟩
      · exact k_is hP hm t1.1 (fun z => absurd z hz) (fun _ => ⟨fun z => absurd rfl z, fun _ => ⟨by omega, k_fail hP hm (x := 1) (by decide) t1.1 fun u u1 => f99 P d s0 Q l1 hP hm _ _ u u1.1.1 u1.2.1 u1.2.2.1 u1.2.2.2 (hb _ rfl)⟩⟩)
end Jd
