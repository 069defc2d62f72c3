/-! The class: the text cut into words. -/
def A3 (q _k : Nat) : Bool := Nat.beq q 3
theorem A3_iff {q k : Nat} : A3 q k = true ↔ q = 3 := by
  unfold A3
  rw [Nat.beq_eq]
/-- the class's kind of the i-th -/
def ck (b : Nat → Nat) (n i : Nat) : Int32 := kc (tk_kd k27 b n (tk_st b n i))
/-- where the class stops -/
def tk_C (b : Nat → Nat) (n T : Nat) : Prop := 1 ≤ T ∧ T ≤ 401 ∧ (∀ i, i + 1 < T → ck b n i ≠ 0 ∧ ck b n i ≠ 1) ∧ (T = 401 ∨ ck b n (T - 1) = 0 ∨ ck b n (T - 1) = 1)
theorem tk_run_n (p : Nat → Bool) : ∀ m i, tk_run p m i ≤ i + m := by
  intro m
  induction m with
  | zero =>
    intro i
    exact Nat.le_refl _
  | succ m ih =>
    intro i
    have := ih (i + 1)
    unfold tk_run
    split <;> omega
theorem tk_end_n {b : Nat → Nat} {n i : Nat} (h : i < n) : tk_end b n i ≤ n := by
  unfold tk_end tk_eL tk_eD
  have h1 := tk_run_n (fun j => tk_L (nI (b j))) (n - i) i
  have h2 := tk_run_n (fun j => tk_D (nI (b j))) (n - i) i
  split
  · omega
  · split <;> omega
section Sc
variable {P : gc_Pr} {d : Nat} {s : gc_St} {Q : gc_TQ}
theorem sp_scan (hP : gc_Cl P) (hm : gc_Mo P) (hd : 3 ≤ d) {n : Nat} {b : Nat → Nat} {l1 : Int32} (hl1 : l1 = 0 ∨ l1 = 1) (hn : n ≤ 2000) (hb : ∀ j, j < n → tk_b (gc_I s 2 j) = b j) (hlt : ∀ j, b j < 256) (hF : gc_F s 1 1 = nI n) (hJ : ∀ k, k < 20 → gc_J s 8 k = lN (w32 k))
    (hQ : ∀ t T, tk_C b n T → fr A3 B47 s t → (∀ i, i < T → tkF b n t i (tk_st b n i)) → (gc_F t 3 11 = l1 ∧ gc_F t 3 7 = 0 ∧ gc_F t 3 12 = 0 ∧ gc_F t 3 13 = -1 ∧ gc_F t 3 8 = 0 ∧ gc_F t 3 10 = 0 ∧ gc_F t 3 14 = 0 ∧ gc_F t 3 15 = -1 ∧ gc_ln t = 0) → Q none t) : gc_T P d 0 0 94 0 [.ref 3, .int l1, gc_u, gc_u] [] s Q := by
  refine b_X8_scan_0 hP hm ⟨hl1, ?_⟩
  have a3 : ∀ k, A3 3 k = true := fun k => A3_iff.mpr rfl
  have g0 : fr A3 B47 s (gc_wF (gc_wF (gc_wF (gc_wln (gc_wF (gc_wF (gc_wF (gc_wF (gc_wF (gc_wF s 3 11 l1) 3 6 0) 3 7 0) 3 12 0) 3 13 (-1)) 3 8 0) 0) 3 10 0) 3 14 0) 3 15 (-1)) := fr_wF (a3 _) (fr_wF (a3 _) (fr_wF (a3 _) (fr_wln (a3 9) (fr_wF (a3 _) (fr_wF (a3 _) (fr_wF (a3 _) (fr_wF (a3 _) (fr_wF (a3 _) (fr_wF (a3 _) (fr_refl s))))))))))
  have wl : ∀ (u : gc_St) (x : Int64) q k, gc_F (gc_wln u x) q k = gc_F u q k := fun _ _ _ _ => rfl
  have hv : ∀ u, u = (gc_wF (gc_wF (gc_wF (gc_wln (gc_wF (gc_wF (gc_wF (gc_wF (gc_wF (gc_wF s 3 11 l1) 3 6 0) 3 7 0) 3 12 0) 3 13 (-1)) 3 8 0) 0) 3 10 0) 3 14 0) 3 15 (-1)) → gc_F u 3 6 = nI 0 ∧ (gc_F u 3 11 = l1 ∧ gc_F u 3 7 = 0 ∧ gc_F u 3 12 = 0 ∧ gc_F u 3 13 = -1 ∧ gc_F u 3 8 = 0 ∧ gc_F u 3 10 = 0 ∧ gc_F u 3 14 = 0 ∧ gc_F u 3 15 = -1 ∧ gc_ln u = 0) := by
    intro u e
    rw [e]
    refine ⟨?_, ?_, ?_, ?_, ?_, ?_, ?_, ?_, ?_, rfl⟩
    · rw [F_ne _ _ (Or.inr (by decide)), F_ne _ _ (Or.inr (by decide)), F_ne _ _ (Or.inr (by decide)), wl, F_ne _ _ (Or.inr (by decide)), F_ne _ _ (Or.inr (by decide)), F_ne _ _ (Or.inr (by decide)), F_ne _ _ (Or.inr (by decide)), F_eq]
      rfl
    · rw [F_ne _ _ (Or.inr (by decide)), F_ne _ _ (Or.inr (by decide)), F_ne _ _ (Or.inr (by decide)), wl, F_ne _ _ (Or.inr (by decide)), F_ne _ _ (Or.inr (by decide)), F_ne _ _ (Or.inr (by decide)), F_ne _ _ (Or.inr (by decide)), F_ne _ _ (Or.inr (by decide)), F_eq]
    · rw [F_ne _ _ (Or.inr (by decide)), F_ne _ _ (Or.inr (by decide)), F_ne _ _ (Or.inr (by decide)), wl, F_ne _ _ (Or.inr (by decide)), F_ne _ _ (Or.inr (by decide)), F_ne _ _ (Or.inr (by decide)), F_eq]
    · rw [F_ne _ _ (Or.inr (by decide)), F_ne _ _ (Or.inr (by decide)), F_ne _ _ (Or.inr (by decide)), wl, F_ne _ _ (Or.inr (by decide)), F_ne _ _ (Or.inr (by decide)), F_eq]
    · rw [F_ne _ _ (Or.inr (by decide)), F_ne _ _ (Or.inr (by decide)), F_ne _ _ (Or.inr (by decide)), wl, F_ne _ _ (Or.inr (by decide)), F_eq]
    · rw [F_ne _ _ (Or.inr (by decide)), F_ne _ _ (Or.inr (by decide)), F_ne _ _ (Or.inr (by decide)), wl, F_eq]
    · rw [F_ne _ _ (Or.inr (by decide)), F_ne _ _ (Or.inr (by decide)), F_eq]
    · rw [F_ne _ _ (Or.inr (by decide)), F_eq]
    · rw [F_eq]
  have hv0 := hv _ rfl
  revert g0 hv0
  generalize gc_wF (gc_wF (gc_wF (gc_wln (gc_wF (gc_wF (gc_wF (gc_wF (gc_wF (gc_wF s 3 11 l1) 3 6 0) 3 7 0) 3 12 0) 3 13 (-1)) 3 8 0) 0) 3 10 0) 3 14 0) 3 15 (-1) = s0
  intro g0 hv0
  have up : ∀ {u t : gc_St}, fr A36 B47 u t → fr A3 B47 u t := fun g => fr_up g (fun q k z => A3_iff.mpr (by
    unfold A36 at z
    rw [Bool.and_eq_true, Nat.beq_eq] at z
    exact z.1)) (fun _ z => z)
  have key : ∀ m i, i + m = 401 → ∀ t, fr A3 B47 s t → (gc_F t 3 6 = nI (tk_pos b n i)) → tk_pos b n i ≤ n → (∀ j, j < i → tkF b n t j (tk_st b n j)) → (∀ j, j < i → ck b n j ≠ 0 ∧ ck b n j ≠ 1) → (gc_F t 3 11 = l1 ∧ gc_F t 3 7 = 0 ∧ gc_F t 3 12 = 0 ∧ gc_F t 3 13 = -1 ∧ gc_F t 3 8 = 0 ∧ gc_F t 3 10 = 0 ∧ gc_F t 3 14 = 0 ∧ gc_F t 3 15 = -1 ∧ gc_ln t = 0) → gc_T P d 0 0 94 54 [.ref 3, .int l1, .int 1, .int (nI i)] [] t Q := by
    intro m
    induction m with
    | zero =>
      intro i hi t g h6 hpn htk hck hvs
      refine b_X8_scan_54 hP hm (pk_lt 400 i (fun _ => hQ t 401 ⟨by decide, by decide, fun j hj => hck j (by omega), Or.inl rfl⟩ g (fun j hj => htk j (by omega)) hvs) (fun z => by omega))
    | succ m ih =>
      intro i hi t g h6 hpn htk hck hvs
      refine b_X8_scan_54 hP hm (pk_lt 400 i (fun z => by omega) (fun _ => ⟨fun y => absurd y (by decide), fun _ => ⟨by omega, ?_⟩⟩))
      have hb' : ∀ j, j < n → tk_b (gc_I t 2 j) = b j := fun j hj => by
        rw [fr_I g rfl]
        exact hb j hj
      have hJ' : ∀ k, k < 20 → gc_J t 8 k = lN (w32 k) := fun k hk => by
        rw [fr_J g rfl]
        exact hJ k hk
      refine sp_find hP hm (by omega) hn hb' hlt ((fr_F g rfl).trans hF) h6 hpn (by omega) hJ' fun u u1 u2 u3 u4 => ?_
      have e36 : ∀ k, k ≠ 6 → gc_F u 3 k = gc_F t 3 k := fun k hk => fr_F u1 (bf fun z => by
        unfold A36 at z
        rw [Bool.and_eq_true, Nat.beq_eq, Nat.beq_eq] at z
        exact hk z.2)
      have gu : fr A3 B47 s u := fr_trans g (up u1)
      have htku : ∀ j, j < i + 1 → tkF b n u j (tk_st b n j) := by
        intro j hj
        by_cases e : j = i
        · rw [e]
          exact u4
        · obtain ⟨o1, o2, o3, o4⟩ := u3 j e
          have := htk j (by omega)
          unfold tkF at this ⊢
          rw [o1, o2, o3, o4]
          exact this
      have hvu : gc_F u 3 11 = l1 ∧ gc_F u 3 7 = 0 ∧ gc_F u 3 12 = 0 ∧ gc_F u 3 13 = -1 ∧ gc_F u 3 8 = 0 ∧ gc_F u 3 10 = 0 ∧ gc_F u 3 14 = 0 ∧ gc_F u 3 15 = -1 ∧ gc_ln u = 0 := by
        rw [e36 11 (by decide), e36 7 (by decide), e36 12 (by decide), e36 13 (by decide), e36 8 (by decide), e36 10 (by decide), e36 14 (by decide), e36 15 (by decide), fr_ln u1 rfl]
        exact hvs
      have hk4 : gc_I u 4 i = ck b n i := u4.1
      have stop : (ck b n i = 0 ∨ ck b n i = 1) → gc_T P d 0 0 94 93 [.ref 3, .int l1, .int 1, .int (nI i)] [] u Q := by
        intro hc
        refine b_X8_scan_93 hP hm (b_X8_scan_94 hP hm ?_)
        have fin : Q none u := hQ u (i + 1) ⟨by omega, by omega, fun j hj => hck j (by omega), Or.inr (by rw [Nat.add_sub_cancel]; exact hc)⟩ gu htku hvu
        rw [nI_1]
        exact b_X8_scan_54 hP hm ⟨fun _ => fin, fun _ => ⟨fun _ => fin, fun y => absurd rfl y⟩⟩
      show vp_in (nI i) 401 ∧ _
      rw [nI_clamp (by omega), hk4]
      refine ⟨vp_in_nI (by omega) (by decide), fun z => stop (Or.inl z), fun z0 => ⟨vp_in_nI (by omega) (by decide), fun z => stop (Or.inr z), fun z1 => b_X8_scan_94 hP hm ?_⟩⟩
      have hsn : tk_skp b n (tk_pos b n i) < n := by
        refine Decidable.byContradiction fun hge => z0 ?_
        unfold ck tk_kd tk_st
        rw [if_pos (Nat.le_of_not_lt hge)]
        rfl
      rw [nI_1]
      refine ih (i + 1) (by omega) u gu ?_ ?_ htku (fun j hj => ?_) hvu
      · rw [u2, if_pos hsn]
        rfl
      · exact tk_end_n hsn
      · by_cases e : j = i
        · rw [e]
          exact ⟨z0, z1⟩
        · exact hck j (by omega)
  exact key 401 0 (by omega) s0 g0 hv0.1 (Nat.zero_le _) (fun j hj => absurd hj (Nat.not_lt_zero _)) (fun j hj => absurd hj (Nat.not_lt_zero _)) hv0.2
end Sc
