/-! The class: TOGETHER settled. -/
theorem nI_wrap (b : Nat) : nI (4294967296 + b) = nI b := by
  rw [← nI_add, show nI 4294967296 = 0 by decide, Int32.zero_add]
theorem cv_set {w : Nat × Nat} (h1 : w.1 ≤ 594) (h2 : w.2 < 64) : (-(cv (some w))) &&& 63 = nI w.2 := by
  have e1 : -(cv (some w)) = nI (4294967296 - 64 * w.1 + w.2) := by
    show -(nI (64 * w.1) - nI w.2) = _
    rw [Int32.neg_sub]
    have : nI w.2 = nI (4294967296 - 64 * w.1 + w.2) + nI (64 * w.1) := by
      rw [nI_add, show 4294967296 - 64 * w.1 + w.2 + 64 * w.1 = 4294967296 + w.2 by omega, nI_wrap]
    rw [this, Int32.add_sub_cancel]
  rw [e1, st_lit 63, st_and, show (63 : Nat) = 2 ^ 6 - 1 from rfl, Nat.and_two_pow_sub_one_eq_mod]
  congr 1
  omega
theorem cv_worth {w : Nat × Nat} (h1 : w.1 ≤ 594) : (cv (some w) + nI w.2) >>> (6 &&& 31) = nI w.1 := by
  have e1 : cv (some w) + nI w.2 = nI (64 * w.1) := by
    show nI (64 * w.1) - nI w.2 + nI w.2 = _
    rw [Int32.sub_add_cancel]
  rw [e1, show (6 : Int32) = nI 6 from rfl, st_shr (by omega) (by decide)]
  congr 1
  omega
def A45 (q _k : Nat) : Bool := Nat.beq q 44 || Nat.beq q 45
theorem A45_iff {q k : Nat} : A45 q k = true ↔ q = 44 ∨ q = 45 := by
  unfold A45
  rw [Bool.or_eq_true, Nat.beq_eq, Nat.beq_eq]
/-- how many rows of ints there are -/
def cnt (s : gc_St) : Prop := gc_n s + kF (fun i => (gc_Y s i).isNone) 0 1536 = 1536 + (if gc_be s = 46 then 0 else 1)
/-- the row of the best -/
def bev (s : gc_St) : Prop := gc_be s = 46 ∨ (116 ≤ gc_be s ∧ gc_gk s (gc_be s) = (0, 14336))
/-- rows of all CLAIMS below the n-th -/
def aS (W : ld_W) (o bh : Nat) : Nat → Nat → Bool
  | 0, _ => false
  | n + 1, i => pS W o (ld_ro W n) bh i || aS W o bh n i
/-- what settling may have changed -/
def cy (kc : Nat) (s t : gc_St) : Prop :=
  (∀ q k, q ≠ 44 → q ≠ 45 → gc_F t q k = gc_F s q k) ∧ (∀ a, a < 116 → a ≠ 24 → a ≠ 47 → a ≠ 48 → gc_I t a = gc_I s a) ∧ (∀ a, a < 116 → a ≠ 47 → a ≠ 48 → gc_J t a = gc_J s a) ∧ (gc_ln t = gc_ln s ∧ gc_lw t = gc_lw s ∧ gc_dr t = gc_dr s ∧ gc_rl t = gc_rl s) ∧ (∀ i u, i < 1536 → gc_F s 10 1 = u → gc_I s 24 i = u → gc_I t 24 i = u) ∧ gc_n t = gc_n s + kc ∧ (cnt s → cnt t)
theorem cy_refl (s : gc_St) : cy 0 s s := ⟨fun _ _ _ _ => rfl, fun _ _ _ _ _ => rfl, fun _ _ _ _ => rfl, ⟨rfl, rfl, rfl, rfl⟩, fun _ _ _ _ e => e, (Nat.add_zero _).symm, id⟩
theorem cy_trans {k1 k2 : Nat} {s t u : gc_St} (h : cy k1 s t) (g : cy k2 t u) : cy (k1 + k2) s u := by
  obtain ⟨h1, h2, h3, ⟨h4, h5, h6, h7⟩, h8, h9, h10⟩ := h
  obtain ⟨g1, g2, g3, ⟨g4, g5, g6, g7⟩, g8, g9, g10⟩ := g
  exact ⟨fun q k e e2 => (g1 q k e e2).trans (h1 q k e e2), fun a e e2 e3 e4 => (g2 a e e2 e3 e4).trans (h2 a e e2 e3 e4), fun a e e2 e3 => (g3 a e e2 e3).trans (h3 a e e2 e3), ⟨g4.trans h4, g5.trans h5, g6.trans h6, g7.trans h7⟩, fun i u hi e1 e2 => g8 i u hi ((h1 10 1 (by decide) (by decide)).trans e1) (h8 i u hi e1 e2), by omega, fun z => g10 (h10 z)⟩
theorem cy_fr {s t : gc_St} (g : fr A45 BPt s t) : cy 0 s t := by
  refine ⟨fun q k e e2 => fr_F g (bf fun z => by have := A45_iff.mp z; omega), fun a _ _ e1 e2 => fr_I g (bf fun z => by have := BPt_iff.mp z; omega), fun a _ e1 e2 => fr_J g (bf fun z => by have := BPt_iff.mp z; omega), ⟨fr_ln g rfl, fr_lw g, fr_dr g, fr_rl g⟩, fun i u _ _ e => ?_, by rw [fr_n g]; exact (Nat.add_zero _).symm, fun z => ?_⟩
  · rw [fr_I g rfl]
    exact e
  · unfold cnt at z ⊢
    rw [fr_n g, fr_Y g, fr_be g]
    exact z
theorem cy_cx {kc : Nat} {s t : gc_St} (g : cx A0 B0 kc s t) : cy kc s t := by
  obtain ⟨h1, h2, h3, h4, ⟨h5, h6, h7, h8, h9⟩, h10, h11, h12, h13⟩ := g
  refine ⟨fun q k _ _ => h1 q k rfl, fun a e e2 _ _ => h2 a e e2 rfl, fun a e _ _ => h3 a e rfl, ⟨h5 rfl, h6, h7, h8⟩, h11, h13, fun z => ?_⟩
  unfold cnt at z ⊢
  rw [h9]
  omega
theorem cy_wR {s : gc_St} (f : Nat → Int32) (hb : 116 ≤ gc_be s) : cy 0 s (gc_wR s (gc_be s) f) :=
  ⟨fun _ _ _ _ => rfl, fun a e _ _ _ => I_wRn s f (by omega), fun _ _ _ _ => rfl, ⟨rfl, rfl, rfl, rfl⟩, fun i u _ _ e => by rw [I_wRn s f (show (24 : Nat) ≠ gc_be s by omega)]; exact e, (Nat.add_zero _).symm, id⟩
section Tg4
variable {P : gc_Pr} {d kc : Nat} {s : gc_St} {Q : gc_TQ} {W : ld_W} {L v o : Nat} {h : Nat × Nat × Nat}
/-- what was found stands there -/
def stA (W : ld_W) (h : Nat × Nat × Nat) (t : gc_St) : Prop := ∃ r K, tgA W h r K ∧ gc_F t 44 3 = cb r.isSome ∧ ∀ w, r = some w → gc_F t 44 4 = nI w.1 ∧ gc_F t 44 5 = nI w.2 ∧ ∀ j, j < ld_c W → w.2 / 2 ^ j % 2 = 1 → ptd t K j
theorem tq_44 {t : gc_St} (hq : tq W L v h s) (g : fr A45 BPt s t) (h45 : ∀ k, k < 3 → gc_F t 45 k = gc_F s 45 k) : tq W L v h t := by
  obtain ⟨h1, h2, h3, h4, h5, h6⟩ := hq
  refine ⟨mvS_fr h1 g ⟨rfl, fun _ => ⟨rfl, rfl⟩⟩ (fun a z => bf fun y => by have := BPt_iff.mp y; omega), h2, ?_, h4, ?_, ?_⟩
  · rw [h45 0 (by decide), h45 1 (by decide), h45 2 (by decide)]
    exact h3
  · rw [fr_be g]
    exact h5
  · rw [fr_be g]
    unfold gc_gk
    rw [fr_n g, fr_D g]
    exact h6
theorem tal_44 {t : gc_St} (hq : tq W L v h s) (ha : tal W v h s) (g : fr A45 BPt s t) : tal W v h t := by
  have h5 := hq.2.2.2.2.1
  refine ⟨fun c hc => ?_, fun c dd h1 h2 h3 => ?_⟩
  · rw [fr_be g, fr_I g (bf fun y => by have := BPt_iff.mp y; omega)]
    exact ha.1 c hc
  · rw [fr_I g (bf fun y => by have := BPt_iff.mp y; omega)]
    exact ha.2 c dd h1 h2 h3
theorem fr_A0 {s t : gc_St} (g : fr A0 BPt s t) : fr A45 BPt s t := fr_up g (fun _ _ z => absurd z (by unfold A0; decide)) (fun _ z => z)
/-- behind the table -/
theorem sp_settled (hP : gc_Cl P) (hm : gc_Mo P) (hd : 6 ≤ d) (hq : tq W L v h s) (ha : tal W v h s) {l2 : Int32} (hl : l2 < 0) {ks : Nat}
    (hQ : ∀ t, tq W L v h t → cy 0 s t → (∀ k, gc_F t 45 k = gc_F s 45 k) → gc_be t = gc_be s → stA W h t → Q none t) : gc_T P d 0 ks 65 82 [.ref 44, .ref 49, .int l2] [] s Q := by
  obtain ⟨b1, b2, hok⟩ := tq_b hq
  have hN := ld_N_le hok
  have hsN := hq.2.2.2.1.1
  have sbr : ∀ b, b < 8 → sb_in b b = true := by decide
  obtain ⟨r, r1, r2⟩ := ha.1 0 (Nat.zero_le _) h.2.2 b2 (sbr _ b2) h.1 (Nat.le_refl _)
  rw [Nat.sub_zero] at r1
  have hilt : ix 0 h.2.2 h.1 < 14336 := by
    unfold ix
    omega
  refine b_X5_settle_82 hP hm ⟨by decide, rfl⟩ ⟨fun _ => ⟨by omega, ?_⟩, fun y => absurd hl y⟩
  rw [hq.2.2.1.2.2]
  refine sp_at hP hm (c := 0) ?_
  show (gc_gk s (gc_be s)).1 = 0 ∧ vp_in (nI (ix 0 h.2.2 0) + gc_F s 45 0) (gc_gk s (gc_be s)).2 ∧ _
  rw [hq.2.2.1.1, nI_add, show ix 0 h.2.2 0 + h.1 = ix 0 h.2.2 h.1 by unfold ix; omega, nI_clamp (by omega), r2, hq.2.2.2.2.2]
  refine ⟨rfl, vp_in_nI hilt (by decide), ?_⟩
  have a44 : ∀ k, A45 44 k = true := fun k => A45_iff.mpr (Or.inl rfl)
  rcases r1 with ⟨r1, r3⟩ | ⟨w, r1, r3, r4⟩
  · rw [r1]
    refine ⟨fun _ => b_X5_settle_167 hP hm ⟨by decide, rfl⟩ ⟨Or.inl rfl, fun _ => b_X5_settle_187 hP hm ⟨by decide, rfl⟩ ?_, fun y => absurd rfl y⟩, fun y => absurd rfl y⟩
    rw [F_eq]
    refine ⟨fun _ => b_X5_settle_211 hP hm ⟨by decide, rfl⟩ ?_, fun y => absurd rfl y⟩
    rw [F_ne _ _ (Or.inr (by decide)), F_eq]
    refine ⟨fun _ => ⟨rfl, ?_⟩, fun y => absurd rfl y⟩
    have g : fr A45 BPt s (gc_wF (gc_wF (gc_wF s 44 3 0) 44 5 0) 44 4 0) := fr_wF (a44 4) (fr_wF (a44 5) (fr_wF (a44 3) (fr_refl s)))
    have e45 : ∀ k, gc_F (gc_wF (gc_wF (gc_wF s 44 3 0) 44 5 0) 44 4 0) 45 k = gc_F s 45 k := fun k => by
      rw [F_ne _ _ (Or.inl (by decide)), F_ne _ _ (Or.inl (by decide)), F_ne _ _ (Or.inl (by decide))]
    refine hQ _ (tq_44 hq g (fun k _ => e45 k)) (cy_fr g) e45 rfl ⟨none, fun _ => 0, ⟨Or.inl ⟨rfl, r3⟩, fun _ e => by simp at e⟩, ?_, fun _ e => by simp at e⟩
    rw [F_ne _ _ (Or.inr (by decide)), F_ne _ _ (Or.inr (by decide)), F_eq]
    rfl
  · rw [r1]
    have hbd := TV_le hok (by omega) r3
    refine ⟨fun y => absurd y (cv_imp hbd.1 hbd.2), fun _ => b_X5_settle_167 hP hm ⟨by decide, rfl⟩ ⟨Or.inr rfl, fun y => absurd y (by decide), fun _ => b_X5_settle_187 hP hm ⟨by decide, rfl⟩ ?_⟩⟩
    rw [F_eq, cv_set hbd.1 hbd.2, cv_worth hbd.1]
    refine ⟨fun y => absurd y (by decide), fun _ => b_X5_settle_211 hP hm ⟨by decide, rfl⟩ ?_⟩
    rw [F_ne _ _ (Or.inr (by decide)), F_eq]
    refine ⟨fun y => absurd y (by decide), fun _ => ⟨by omega, b_X5_partAll_0 hP hm ?_⟩⟩
    have g : fr A45 BPt s (gc_wF (gc_wF (gc_wF s 44 3 1) 44 5 (nI w.2)) 44 4 (nI w.1)) := fr_wF (a44 4) (fr_wF (a44 5) (fr_wF (a44 3) (fr_refl s)))
    have e45 : ∀ k, gc_F (gc_wF (gc_wF (gc_wF s 44 3 1) 44 5 (nI w.2)) 44 4 (nI w.1)) 45 k = gc_F s 45 k := fun k => by
      rw [F_ne _ _ (Or.inl (by decide)), F_ne _ _ (Or.inl (by decide)), F_ne _ _ (Or.inl (by decide))]
    have q3 : gc_F (gc_wF (gc_wF (gc_wF s 44 3 1) 44 5 (nI w.2)) 44 4 (nI w.1)) 44 3 = 1 := by
      rw [F_ne _ _ (Or.inr (by decide)), F_ne _ _ (Or.inr (by decide)), F_eq]
    have q4 : gc_F (gc_wF (gc_wF (gc_wF s 44 3 1) 44 5 (nI w.2)) 44 4 (nI w.1)) 44 4 = nI w.1 := F_eq _ _ _ _
    have q5 : gc_F (gc_wF (gc_wF (gc_wF s 44 3 1) 44 5 (nI w.2)) 44 4 (nI w.1)) 44 5 = nI w.2 := by
      rw [F_ne _ _ (Or.inr (by decide)), F_eq]
    have hq2 := tq_44 hq g (fun k _ => e45 k)
    have ha2 := tal_44 hq ha g
    revert g e45 q3 q4 q5 hq2 ha2
    generalize gc_wF (gc_wF (gc_wF s 44 3 1) 44 5 (nI w.2)) 44 4 (nI w.1) = s1
    intro g e45 q3 q4 q5 hq2 ha2
    rw [hq2.2.2.1.1, hq2.2.2.1.2.2]
    refine sp_partAll hP hm (by omega) hbd.2 (ld_c W) 0 h.1 h.2.2 w s1 _ hq2 ha2 q5 (by omega) (Nat.le_refl _) b2 (sbr _ b2) (Nat.mod_one _) (fun _ _ => rfl) (Or.inr ⟨w, rfl, r3, r4⟩) fun t K k1 k2 k3 k4 => ?_
    refine ⟨rfl, ?_⟩
    have g2 : fr A45 BPt s t := fr_trans g (fr_A0 k1)
    have e45t : ∀ k, gc_F t 45 k = gc_F s 45 k := fun k => (fr_F k1 rfl).trans (e45 k)
    refine hQ t (tq_44 hq g2 (fun k _ => e45t k)) (cy_fr g2) e45t (fr_be g2) ⟨some w, K, ⟨Or.inr ⟨w, rfl, r3, r4⟩, fun w2 e => ?_⟩, ?_, fun w2 e => ?_⟩
    · rw [Option.some.injEq] at e
      rw [← e]
      exact k2
    · rw [fr_F k1 rfl]
      exact q3
    · rw [Option.some.injEq] at e
      rw [← e, fr_F k1 rfl, fr_F k1 rfl]
      exact ⟨q4, q5, fun j hj hb => k3 j (Nat.zero_le _) hj hb⟩
end Tg4
