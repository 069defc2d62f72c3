/-! Words taken, on both sides. -/
/-- the later fault that is kept -/
def sf (r : Option (Nat × Nat)) (x p : Nat) : Option (Nat × Nat) := match r with
  | none => some (x, p)
  | some v => some v
theorem sf_ne (r : Option (Nat × Nat)) (x p : Nat) : sf r x p ≠ none := by
  unfold sf
  split <;> simp
theorem Atk_3 {q k : Nat} (h : Atk q k = true) : q = 3 ∧ k ≤ 10 := by
  unfold Atk at h
  rw [Bool.and_eq_true, Bool.and_eq_true, Nat.beq_eq, Nat.ble_eq, Nat.ble_eq] at h
  exact ⟨h.1, h.2.2⟩
theorem Abl_3 {q k : Nat} (h : Abl q k = true) : q = 3 := by
  unfold Abl at h
  rw [Bool.and_eq_true, Nat.beq_eq] at h
  exact h.1
theorem Aob_3 {q k : Nat} (h : Aob q k = true) : q = 3 ∧ 12 ≤ k := by
  unfold Aob at h
  rw [Bool.and_eq_true, Bool.and_eq_true, Nat.beq_eq, Nat.ble_eq] at h
  exact ⟨h.1, h.2.1⟩
theorem fr_bl {L : Nat} {s0 s t : gc_St} (h : fr (AcL L) (BcL L) s0 s) (g : fr Abl B0 s t) : fr (AcL L) (BcL L) s0 t :=
  fr_trans h (fr_up g (fun _ _ z => AcL_iff.mpr (Or.inl (Abl_3 z))) (fun _ z => absurd z (by unfold B0; decide)))
section Zt
variable {P : gc_Pr} {d : Nat} {s s0 : gc_St} {Q : gc_TQ} {b : Nat → Nat} {n T L sd m i o : Nat} {nc : List (List Nat × Nat × Nat)} {W : ld_W} {r : Option (Nat × Nat)}
theorem z_take (hP : gc_Cl P) (hm : gc_Mo P) {k c : Int32} (hk : kk c k) (e : rk b n i = k) (h : zC b n T L m nc s0 i W r o s) (h1 : ∀ t, i < 400 → zC b n T L m nc s0 (i + 1) W r o t → gc_ln t = gc_J s 6 i → gc_F t 3 10 = gc_I s 7 i → Q (some (.int 1)) t) (h2 : ∀ t, i = 400 → zFC L s0 2 (tk_st b n i) t → Q (some (.int 0)) t) : gc_T P d 0 0 106 0 [.ref 3] [] s Q := by
  have hc : ck b n i = c := (hk.1 _).mpr e
  refine sp_take hP hm h.1 (by rw [hc]; exact kk_c hk) (fun t t1 t2 t3 t4 => h1 t t1 ⟨t2, fun _ => t3.2.1, zB_fr h.2.2 t4 (fun _ _ => Atk_3)⟩ t3.2.2.1 t3.2.2.2) (fun t t1 t2 t3 => h2 t t1 ⟨fr_bl h.2.2.1 t2, t3, by decide, by decide⟩)
theorem z_accept (hP : gc_Cl P) (hm : gc_Mo P) (hd : 1 ≤ d) {k c : Int32} (hk : kk c k) (h : zC b n T L m nc s0 i W r o s) (h1 : ∀ t, rk b n i = k → i < 400 → zC b n T L m nc s0 (i + 1) W r o t → gc_ln t = gc_J s 6 i → gc_F t 3 10 = gc_I s 7 i → Q (some (.int 1)) t) (h2 : ∀ t, rk b n i = k → i = 400 → zFC L s0 2 (tk_st b n i) t → Q (some (.int 0)) t) (h3 : ∀ t, rk b n i ≠ k → zFC L s0 1 (tk_st b n i) t → Q (some (.int 0)) t) : gc_T P d 0 0 107 0 [.ref 3, .int c] [] s Q := by
  refine sp_accept hP hm hd (kk_c hk) h.1 (fun t t0 t1 t2 t3 t4 => h1 t ((hk.1 _).mp t0) t1 ⟨t2, fun _ => t3.2.1, zB_fr h.2.2 t4 (fun _ _ => Atk_3)⟩ t3.2.2.1 t3.2.2.2) (fun t t0 t1 t2 t3 => h2 t ((hk.1 _).mp t0) t1 ⟨fr_bl h.2.2.1 t2, t3, by decide, by decide⟩) (fun t t0 t2 t3 => h3 t (fun z => t0 ((hk.1 _).mpr z)) ⟨fr_bl h.2.2.1 t2, t3, by decide, by decide⟩)
theorem z_blame (hP : gc_Cl P) (hm : gc_Mo P) {x p : Nat} (hx : 1 ≤ x ∧ x < 9) (h : fr (AcL L) (BcL L) s0 s) (hQ : ∀ t, zFC L s0 x p t → Q (some (.int 0)) t) : gc_T P d 0 0 108 0 [.ref 3, .int (nI x), .int (nI p)] [] s Q :=
  sp_blame hP hm fun t t1 t2 => hQ t ⟨fr_bl h t1, t2, hx⟩
/-- a later fault told, by the class -/
theorem z_object (hP : gc_Cl P) (hm : gc_Mo P) {x p : Nat} (hx : 1 ≤ x) (hx2 : x < 9) (h : zC b n T L m nc s0 i W r o s) (hi : 1 ≤ i) (hp : tk_st b n (i - 1) = p) (hQ : ∀ t, zC b n T L m nc s0 i W (sf r x p) o t → Q (some (.int 1)) t) : gc_T P d 0 0 109 0 [.ref 3, .int (nI x)] [] s Q := by
  obtain ⟨c1, c2, h1, ⟨h2, h3⟩, h4, ⟨h5, h6, h7⟩, h8, ⟨nx, h9, h10, h11, h12⟩, h13⟩ := h
  refine sp_object hP hm (Or.inr h2) (fun t _ t1 t2 t3 t4 t5 => ?_) (fun t z => absurd (h2.symm.trans z) (by decide))
  have hF : ∀ q k, (q = 3 → k < 12) → gc_F t q k = gc_F s q k := fun q k e => fr_F t1 (bf fun z => by
    have := Aob_3 z
    have := e this.1
    omega)
  have hn := cL_ne h5
  have hL : ∀ k, gc_F t L k = gc_F s L k := fun k => hF L k (fun e => absurd e hn.1)
  refine hQ t ⟨cpw_fr c1 t1 rfl (fun _ _ _ => rfl), fun _ => (hF 3 8 (fun _ => by decide)).trans (c2 hi), fr_trans h1 (fr_up t1 (fun _ _ z => AcL_iff.mpr (Or.inl (Aob_3 z).1)) (fun _ z => absurd z (by unfold B0; decide))), ⟨(hF 3 11 (fun _ => by decide)).trans h2, t2.trans h3⟩, ?_, ⟨h5, (fr_rl t1).trans h6, (hF 9 2 (fun e => absurd e (by decide))).trans h7⟩, ?_, ⟨nx, nmC_of h9 (hL 6) (fr_J t1 rfl) (fr_I t1 rfl), h10, h11, fun z => absurd z (sf_ne _ _ _)⟩, fun z => absurd z (sf_ne _ _ _)⟩
  · rcases h4 with ⟨e, e1, e2⟩ | ⟨v, e, e0, e1, e2, e3⟩
    · rw [e1, if_pos rfl] at t4 t5
      refine Or.inr ⟨(x, p), by rw [e]; rfl, hx, (by omega : x < 2 ^ 31), t4, ?_⟩
      rw [t5, c2 hi, hp]
    · have hne : ¬ gc_F s 3 14 = 0 := by
        rw [e2]
        exact nI_ne0 e0 e1
      rw [if_neg hne] at t4 t5
      exact Or.inr ⟨v, by rw [e]; rfl, e0, e1, t4.trans e2, t5.trans e3⟩
  · unfold cnC at h8 ⊢
    rw [hL 0, hL 1, hL 2, hL 3, hL 4]
    exact h8
end Zt
theorem Am12_i {q k : Nat} (h : Am12 q k = true) : q = 67 ∧ k = 12 := by
  unfold Am12 at h
  rw [Bool.and_eq_true, Nat.beq_eq, Nat.beq_eq] at h
  exact h
theorem Amf_i {q k : Nat} (h : Amf q k = true) : q = 67 ∧ (k = 14 ∨ k = 15) := by
  unfold Amf at h
  rw [Bool.and_eq_true, Bool.or_eq_true, Nat.beq_eq, Nat.beq_eq, Nat.beq_eq] at h
  exact h
theorem Amw_i {q k : Nat} (h : Amw q k = true) : q = 67 ∧ (k = 16 ∨ k = 17) := by
  unfold Amw at h
  rw [Bool.and_eq_true, Bool.or_eq_true, Nat.beq_eq, Nat.beq_eq, Nat.beq_eq] at h
  exact h
theorem B0_f {a : Nat} (h : B0 a = true) : False := by
  unfold B0 at h
  exact absurd h (by decide)
theorem zFR_n {sd x p : Nat} {s0 t : gc_St} (h : zFR sd s0 x p t) : ¬ gc_F t 67 14 = 0 ∧ ¬ gc_F t 67 14 ≤ 0 ∧ 0 < gc_F t 67 14 := by
  rw [h.2.1.1]
  have h1 := h.2.2.1.1
  have h2 := h.2.2.1.2
  exact ⟨nI_ne0 h1 (by omega), nI_nle h1 (by omega), nI_lt (a := 0) h1 (by omega)⟩
section Yt
variable {P : gc_Pr} {d : Nat} {s s0 : gc_St} {Q : gc_TQ} {b : Nat → Nat} {n T L sd m i o : Nat} {nr : List (List Nat × Nat × Nat)} {W : ld_W} {r : Option (Nat × Nat)}
theorem y_fr (h : zS sd m nr s0 W r o s) {t : gc_St} (g : fr Amf B0 s t) : fr AzR BzR s0 t ∧ kpR (1 - sd) s0 t :=
  ⟨fr_trans h.1.1 (fr_up g (fun q k z => AzR_iff.mpr ⟨(Amf_i z).1, by have := (Amf_i z).2; omega⟩) (fun _ z => (B0_f z).elim)), kp_fr h.1.2 g (fun _ z => (B0_f z).elim)⟩
theorem y_12 (h : rpw b n T i s) {t : gc_St} (g : fr Amf B0 s t) : vp_in (gc_F t 67 12) 403 := by
  have := rpw_i h
  rw [fr_F g rfl, h.2.2.1]
  exact vp_in_nI (by omega) (by decide)
theorem y_is (hP : gc_Cl P) (hm : gc_Mo P) {x : Int32} (h : zR b n T sd m nr s0 i W r o s) (h1 : rk b n i = x → Q (some (.int 1)) s) (h2 : rk b n i ≠ x → Q (some (.int 0)) s) : gc_T P d 0 0 184 0 [.ref 67, .int x] [] s Q := by
  refine sp_mis hP hm h.1 h.2.2.1.1 ?_
  by_cases e : rk b n i = x
  · rw [decide_eq_true e]
    exact h1 e
  · rw [decide_eq_false e]
    exact h2 e
theorem y_fail (hP : gc_Cl P) (hm : gc_Mo P) {x : Nat} (hx : 1 ≤ x ∧ x < 9) (h : zR b n T sd m nr s0 i W r o s) (hQ : ∀ t, zFR sd s0 x (tk_st b n i) t → fr Amf B0 s t → Q none t) : gc_T P d 0 0 185 0 [.ref 67, .int (nI x)] [] s Q :=
  sp_mfail hP hm h.1 h.2.2.1.1 fun t t1 t2 => hQ t ⟨y_fr h.2 t1, t2, hx, y_12 h.1 t1⟩ t1
theorem y_go (hP : gc_Cl P) (hm : gc_Mo P) (hd : 1 ≤ d) (h : zR b n T sd m nr s0 i W r o s) (hk : rk b n i ≠ 0) (h1 : ∀ t, i < 400 → zR b n T sd m nr s0 (i + 1) W r o t → fr Am12 B0 s t → Q none t) (h2 : ∀ t, i = 400 → zFR sd s0 2 (tk_st b n i) t → fr Amf B0 s t → Q none t) : gc_T P d 0 0 187 0 [.ref 67] [] s Q := by
  refine sp_mgoesOn hP hm hd h.1 h.2.2.1.1 hk (fun t t1 t2 t3 => h1 t t1 ⟨t2, zS_fr h.2 t3 (fun _ _ z => ⟨(Am12_i z).1, Or.inl (Am12_i z).2⟩) (fun _ z => (B0_f z).elim)⟩ t3) (fun t t1 t2 t3 => h2 t t1 ⟨y_fr h.2 t2, t3, by decide, y_12 h.1 t2⟩ t2)
theorem y_must (hP : gc_Cl P) (hm : gc_Mo P) (hd : 2 ≤ d) {x : Int32} (hx : x ≠ 0) (h : zR b n T sd m nr s0 i W r o s) (h1 : ∀ t, rk b n i = x → i < 400 → zR b n T sd m nr s0 (i + 1) W r o t → fr Am12 B0 s t → Q none t) (h2 : ∀ t, rk b n i = x → i = 400 → zFR sd s0 2 (tk_st b n i) t → fr Amf B0 s t → Q none t) (h3 : ∀ t, rk b n i ≠ x → zFR sd s0 1 (tk_st b n i) t → fr Amf B0 s t → Q none t) : gc_T P d 0 0 188 0 [.ref 67, .int x] [] s Q := by
  refine sp_mmust hP hm hd hx h.1 h.2.2.1.1 (fun t t0 t1 t2 t3 => h1 t t0 t1 ⟨t2, zS_fr h.2 t3 (fun _ _ z => ⟨(Am12_i z).1, Or.inl (Am12_i z).2⟩) (fun _ z => (B0_f z).elim)⟩ t3) (fun t t0 t1 t2 t3 => h2 t t0 t1 ⟨y_fr h.2 t2, t3, by decide, y_12 h.1 t2⟩ t2) (fun t t0 t2 t3 => h3 t t0 ⟨y_fr h.2 t2, t3, by decide, y_12 h.1 t2⟩ t2)
theorem wr_sf {x p : Nat} (h : ∀ v, r = some v → ¬ (p < v.2 ∨ (p = v.2 ∧ x < v.1))) : wr_v r x p = sf r x p := by
  cases r with
  | none => rfl
  | some v =>
    show (if p < v.2 ∨ (p = v.2 ∧ x < v.1) then some (x, p) else some v) = some v
    rw [if_neg (h v rfl)]
/-- a later fault told, by the reference -/
theorem y_wrong (hP : gc_Cl P) (hm : gc_Mo P) {x j : Nat} (hx : 1 ≤ x) (hx2 : x < 9) (h : zR b n T sd m nr s0 i W r o s) (hj : j < T) (hp : tk_st b n j < 2 ^ 31) (hv : ∀ v, r = some v → ¬ (tk_st b n j < v.2 ∨ (tk_st b n j = v.2 ∧ x < v.1))) (hQ : ∀ t, zR b n T sd m nr s0 i W (sf r x (tk_st b n j)) o t → fr Amw B0 s t → Q none t) : gc_T P d 0 0 186 0 [.ref 67, .int (nI x), .int (nI j), gc_u] [] s Q := by
  obtain ⟨c1, ⟨h1, h0⟩, ⟨h2, h3⟩, ⟨h4, h5, h6⟩, h7, h8, ⟨nx, h9, h10, h11, h12, h14⟩, h13⟩ := h
  refine sp_mwrong hP hm c1 hj h2 h7 hx (by omega) hp fun t t1 t2 => ?_
  rw [wr_sf hv] at t1
  have hF : ∀ k, k ≠ 16 → k ≠ 17 → gc_F t 67 k = gc_F s 67 k := fun k e1 e2 => fr_F t2 (bf fun z => by
    have := (Amw_i z).2
    omega)
  refine hQ t ⟨rpw_fr c1 t2 rfl (fun _ _ _ => rfl), ⟨fr_trans h1 (fr_up t2 (fun q k z => AzR_iff.mpr ⟨(Amw_i z).1, by have := (Amw_i z).2; omega⟩) (fun _ z => (B0_f z).elim)), kp_fr h0 t2 (fun _ z => (B0_f z).elim)⟩, ⟨(hF 14 (by decide) (by decide)).trans h2, (hF 43 (by decide) (by decide)).trans h3⟩, ⟨h4, (hF 20 (by decide) (by decide)).trans h5, (hF 13 (by decide) (by decide)).trans h6⟩, t1, cnR_of h8 (fun a _ _ => fr_I t2 rfl), ⟨nx, nmR_of h9 (fr_J t2 rfl) (fr_I t2 rfl) (fr_I t2 rfl), (hF 21 (by decide) (by decide)).trans h10, h11, h12, fun z => absurd z (sf_ne _ _ _)⟩, fun z => absurd z (sf_ne _ _ _)⟩ t2
end Yt
