/-! The class: TOGETHER, PART. -/
def to_v (r : Option (Nat × Nat)) (w : Nat) : Int32 := match r with
  | none => -2
  | some v => if w = 0 then nI v.1 else nI v.2
def pa_v (r : Option (Nat × Nat)) (K : Nat → Nat) (k w : Nat) : Int32 := match r with
  | none => -2
  | some v => if v.2 / 2 ^ k % 2 = 1 then (if w = 0 then nI (K k / 8) else nI (K k % 8)) else -2
noncomputable def tgr (W : ld_W) (h : Nat × Nat × Nat) : Option (Nat × Nat) := Classical.epsilon (fun r => RV (TV W h.2.1 (ld_c W) 0 h.1 h.2.2) r)
noncomputable def tgK (W : ld_W) (h : Nat × Nat × Nat) : Nat → Nat := Classical.epsilon (fun K => tgA W h (tgr W h) K)
noncomputable def an_to (W : ld_W) (h : Nat × Nat × Nat) (w : Nat) : Int32 := to_v (tgr W h) w
noncomputable def an_pa (W : ld_W) (h : Nat × Nat × Nat) (k w : Nat) : Int32 := pa_v (tgr W h) (tgK W h) k w
section Tg6
variable {P : gc_Pr} {d kc ks : Nat} {s : gc_St} {Q : gc_TQ} {W : ld_W} {L v o : Nat} {h : Nat × Nat × Nat}
theorem tg_r {r : Option (Nat × Nat)} (hA : RV (TV W h.2.1 (ld_c W) 0 h.1 h.2.2) r) : tgr W h = r :=
  RV_uniq (Classical.epsilon_spec (p := fun r => RV (TV W h.2.1 (ld_c W) 0 h.1 h.2.2) r) ⟨r, hA⟩) hA
theorem tg_to {r : Option (Nat × Nat)} {K : Nat → Nat} (hA : tgA W h r K) (w : Nat) : to_v r w = an_to W h w := by
  unfold an_to
  rw [tg_r hA.1]
theorem tg_pa {r : Option (Nat × Nat)} {K : Nat → Nat} (hA : tgA W h r K) {k : Nat} (hk : k < ld_c W) (w : Nat) : pa_v r K k w = an_pa W h k w := by
  unfold an_pa
  have e := tg_r hA.1
  have hA2 : tgA W h (tgr W h) (tgK W h) := Classical.epsilon_spec (p := fun K => tgA W h (tgr W h) K) ⟨K, by rw [e]; exact hA⟩
  rw [e] at hA2
  rw [e]
  cases r with
  | none => rfl
  | some v =>
    show (if v.2 / 2 ^ k % 2 = 1 then (if w = 0 then nI (K k / 8) else nI (K k % 8)) else -2) = (if v.2 / 2 ^ k % 2 = 1 then (if w = 0 then nI (tgK W h k / 8) else nI (tgK W h k % 8)) else -2)
    by_cases e2 : v.2 / 2 ^ k % 2 = 1
    · rw [if_pos e2, if_pos e2, PA_uniq _ _ _ _ _ (Nat.mod_one _) (hA.2 v rfl) (hA2.2 v rfl) k (Nat.zero_le _) (by omega) e2]
    · rw [if_neg e2, if_neg e2]
/-- what is held as settled is right -/
def stl (W : ld_W) (s : gc_St) : Prop := gc_F s 45 3 ≠ 0 → ∀ h : Nat × Nat × Nat, h.1 < 256 → h.2.1 < 8 → h.2.2 < 8 → gc_F s 45 0 = nI h.1 → gc_F s 45 1 = nI h.2.1 → gc_F s 45 2 = nI h.2.2 → stA W h s
def hit (h : Nat × Nat × Nat) (s : gc_St) : Prop := gc_F s 45 3 ≠ 0 ∧ gc_F s 45 0 = nI h.1 ∧ gc_F s 45 1 = nI h.2.1 ∧ gc_F s 45 2 = nI h.2.2
/-- what settling makes anew -/
def kSt (W : ld_W) (h : Nat × Nat × Nat) (s : gc_St) (kc ks : Nat) : Prop := (hit h s → kc = 0) ∧ (¬ hit h s → kc = (if gc_be s = 46 then 1 else 0) + kF (fun i => aS W h.2.1 h.2.2 (ld_c W) i && (gc_Y s i).isNone) 0 1536 ∧ ks = (if gc_be s = 46 then 14336 else 0) + 256 * kF (fun i => aS W h.2.1 h.2.2 (ld_c W) i && (gc_Y s i).isNone) 0 1536)
theorem nb_ok (hS : mvS W L v s) : mvS W L v (gc_wbe (gc_nwI s 14336) (116 + gc_n s)) ∧ gc_gk (gc_wbe (gc_nwI s 14336) (116 + gc_n s)) (116 + gc_n s) = (0, 14336) ∧ (gc_be s = 46 → cy 1 s (gc_wbe (gc_nwI s 14336) (116 + gc_n s))) := by
  have eI : ∀ a, a < 116 + gc_n s → gc_I (gc_wbe (gc_nwI s 14336) (116 + gc_n s)) a = gc_I s a := by
    intro a ha
    funext j
    show gc_I (gc_nwI s 14336) a j = _
    rw [rw_I_nwI, if_neg (by omega)]
  have eD : ∀ a, gc_D (gc_wbe (gc_nwI s 14336) (116 + gc_n s)) a = if a = 116 + gc_n s then 14336 else gc_D s a := fun a => rfl
  obtain ⟨h1, r1, r2, ⟨r3, r4, r5⟩, r6⟩ := hS
  have hok := h1.2.2.2.1
  refine ⟨⟨cl_C_of h1 rfl rfl (fun a ha _ => eI a (by omega)), r1, fun i hi => ?_, ⟨⟨Or.inr (by show 116 ≤ 116 + gc_n s; omega), by show 116 + gc_n s < 116 + (gc_n s + 1); omega⟩, fun i a hi ha => ?_, r5⟩, fun o p b ho hp hb hv => ?_⟩, ?_, fun e => ?_⟩
  · rw [eI 24 (by omega)]
    exact r2 i hi
  · obtain ⟨y1, y2, y3, y4⟩ := r4 i a hi ha
    refine ⟨y1, by show a < 116 + (gc_n s + 1); omega, ?_, by show a ≠ 116 + gc_n s; omega⟩
    rw [eD, if_neg (by omega)]
    exact y3
  · rw [eI 24 (by omega)] at hv ⊢
    obtain ⟨⟨a', y1, y2⟩, y3⟩ := r6 o p b ho hp hb hv
    refine ⟨⟨a', y1, fun st hst => ?_⟩, y3⟩
    have hlt := cl_num_lt ho (show p < 24 by have := hok.1.2.2.2.2; omega) hb
    rw [eI a' (r4 _ _ hlt y1).2.1]
    exact y2 st hst
  · unfold gc_gk
    rw [Nat.ble_eq_true_of_le (show 116 ≤ 116 + gc_n s by omega), show Nat.blt (116 + gc_n s) (116 + gc_n (gc_wbe (gc_nwI s 14336) (116 + gc_n s))) = true from Nat.ble_eq_true_of_le (show 116 + gc_n s + 1 ≤ 116 + (gc_n s + 1) by omega), eD, if_pos rfl]
  · refine ⟨fun _ _ _ _ => rfl, fun a ha _ _ _ => eI a (by omega), fun _ _ _ _ => rfl, ⟨rfl, rfl, rfl, rfl⟩, fun i u _ _ e2 => by rw [eI 24 (by omega)]; exact e2, rfl, fun z => ?_⟩
    unfold cnt at z ⊢
    rw [if_pos e] at z
    rw [show gc_be (gc_wbe (gc_nwI s 14336) (116 + gc_n s)) = 116 + gc_n s from rfl, if_neg (show ¬ 116 + gc_n s = 46 by omega)]
    show gc_n s + 1 + kF (fun i => (gc_Y s i).isNone) 0 1536 = 1536 + 1
    omega
theorem sp_settle (hP : gc_Cl P) (hm : gc_Mo P) (hd : 7 ≤ d) (hq : cq W L v h s) (hb : bev s) (hst : stl W s) (hk : kSt W h s kc ks)
    (hQ : ∀ t, cq W L v h t → cy kc s t → bev t → stl W t → stA W h t → Q none t) : gc_T P d kc ks 65 0 [.ref 44, .ref 49, gc_u] [] s Q := by
  obtain ⟨b1, b2, hok⟩ := cq_b hq
  have hN := ld_N_le hok
  have hsN := hq.2.2.2.1
  have main : ¬ hit h s → gc_T P d kc ks 65 22 [.ref 44, .ref 49, gc_u] [] s Q := by
    intro hh
    obtain ⟨hkc, hks⟩ := hk.2 hh
    refine b_X5_settle_22 hP hm ⟨by decide, rfl⟩ ⟨by omega, b_X1_copy_0 hP hm ⟨by decide, rfl⟩ ⟨by decide, rfl⟩ ?_⟩
    rw [F_ne _ _ (Or.inl (by decide)), F_ne _ _ (Or.inl (by decide)), F_ne _ _ (Or.inl (by decide)), hq.2.2.1.1, hq.2.2.1.2.1, hq.2.2.1.2.2]
    have a45 : ∀ k, A45 45 k = true := fun k => A45_iff.mpr (Or.inr rfl)
    have g : fr A45 BPt s (gc_wF (gc_wF (gc_wF (gc_wF s 45 0 (nI h.1)) 45 1 (nI h.2.1)) 45 2 (nI h.2.2)) 45 3 1) := fr_wF (a45 3) (fr_wF (a45 2) (fr_wF (a45 1) (fr_wF (a45 0) (fr_refl s))))
    have q0 : gc_F (gc_wF (gc_wF (gc_wF (gc_wF s 45 0 (nI h.1)) 45 1 (nI h.2.1)) 45 2 (nI h.2.2)) 45 3 1) 45 0 = nI h.1 := by
      rw [F_ne _ _ (Or.inr (by decide)), F_ne _ _ (Or.inr (by decide)), F_ne _ _ (Or.inr (by decide)), F_eq]
    have q1 : gc_F (gc_wF (gc_wF (gc_wF (gc_wF s 45 0 (nI h.1)) 45 1 (nI h.2.1)) 45 2 (nI h.2.2)) 45 3 1) 45 1 = nI h.2.1 := by
      rw [F_ne _ _ (Or.inr (by decide)), F_ne _ _ (Or.inr (by decide)), F_eq]
    have q2 : gc_F (gc_wF (gc_wF (gc_wF (gc_wF s 45 0 (nI h.1)) 45 1 (nI h.2.1)) 45 2 (nI h.2.2)) 45 3 1) 45 2 = nI h.2.2 := by
      rw [F_ne _ _ (Or.inr (by decide)), F_eq]
    have hS2 : mvS W L v (gc_wF (gc_wF (gc_wF (gc_wF s 45 0 (nI h.1)) 45 1 (nI h.2.1)) 45 2 (nI h.2.2)) 45 3 1) := mvS_fr hq.1 g ⟨rfl, fun _ => ⟨rfl, rfl⟩⟩ (fun a z => bf fun y => by have := BPt_iff.mp y; omega)
    have egk : gc_gk (gc_wF (gc_wF (gc_wF s 45 0 (nI h.1)) 45 1 (nI h.2.1)) 45 2 (nI h.2.2)) = gc_gk s := rfl
    have ebe : gc_be (gc_wF (gc_wF (gc_wF s 45 0 (nI h.1)) 45 1 (nI h.2.1)) 45 2 (nI h.2.2)) = gc_be s := rfl
    have en : gc_n (gc_wF (gc_wF (gc_wF s 45 0 (nI h.1)) 45 1 (nI h.2.1)) 45 2 (nI h.2.2)) = gc_n (gc_wF (gc_wF (gc_wF (gc_wF s 45 0 (nI h.1)) 45 1 (nI h.2.1)) 45 2 (nI h.2.2)) 45 3 1) := rfl
    show Nat.blt (gc_gk _ (gc_be _)).1 6 = true ∧ _
    rw [egk, ebe, en]
    revert g q0 q1 q2 hS2
    generalize gc_wF (gc_wF (gc_wF (gc_wF s 45 0 (nI h.1)) 45 1 (nI h.2.1)) 45 2 (nI h.2.2)) 45 3 1 = s3
    intro g q0 q1 q2 hS2
    -- from there on
    have go : ∀ s4 k4, tq W L v h s4 → cy k4 s s4 → kc = k4 + kF (fun i => aS W h.2.1 h.2.2 (ld_c W) i && (gc_Y s4 i).isNone) 0 1536 → gc_T P d (kF (fun i => aS W h.2.1 h.2.2 (ld_c W) i && (gc_Y s4 i).isNone) 0 1536) (256 * kF (fun i => aS W h.2.1 h.2.2 (ld_c W) i && (gc_Y s4 i).isNone) 0 1536) 65 55 [.ref 44, .ref 49, gc_u] [] s4 Q := by
      intro s4 k4 hq4 hc4 hk4
      refine sp_settle55 hP hm hd hq4 rfl fun t t1 t2 t3 t4 t5 => ?_
      have hcy : cy kc s t := by
        rw [hk4]
        exact cy_trans hc4 t2
      have e49 : ∀ k, gc_F t 49 k = gc_F s 49 k := fun k => hcy.1 49 k (by decide) (by decide)
      refine hQ t ⟨t1.1, hq.2.1, ?_, hq.2.2.2⟩ hcy (Or.inr t1.2.2.2.2) (fun _ h' k1 k2 k3 k5 k6 k7 => ?_) t5
      · rw [e49, e49, e49]
        exact hq.2.2.1
      · have e : h' = h := by
          rw [t1.2.2.1.1] at k5
          rw [t1.2.2.1.2.1] at k6
          rw [t1.2.2.1.2.2] at k7
          rw [nI_eq (by omega) (by omega)] at k5 k6 k7
          exact Prod.ext k5.symm (Prod.ext k6.symm k7.symm)
        rw [e]
        exact t5
    have eY : gc_Y s3 = gc_Y s := fr_Y g
    have ebe3 : gc_be s3 = gc_be s := fr_be g
    rcases hb with hb | ⟨hb1, hb2⟩
    · rw [hb]
      rw [if_pos hb] at hkc hks
      refine ⟨rfl, fun y => absurd rfl y, fun _ => ⟨by decide, by decide, by omega, by rw [show (14336 : Int32).toNatClampNeg = 14336 by decide]; omega, ?_⟩⟩
      rw [show (14336 : Int32).toNatClampNeg = 14336 by decide]
      obtain ⟨n1, n2, n3⟩ := nb_ok hS2
      have := go (gc_wbe (gc_nwI s3 14336) (116 + gc_n s3)) 1 ⟨n1, hq.2.1, ⟨q0, q1, q2⟩, hq.2.2.2, by show 116 ≤ 116 + gc_n s3; omega, n2⟩ (by have := cy_trans (cy_fr g) (n3 (ebe3.trans hb)); rw [Nat.zero_add] at this; exact this) (by rw [show gc_Y (gc_wbe (gc_nwI s3 14336) (116 + gc_n s3)) = gc_Y s from eY]; exact hkc)
      rw [show gc_Y (gc_wbe (gc_nwI s3 14336) (116 + gc_n s3)) = gc_Y s from eY] at this
      rw [show kc - 1 = kF (fun i => aS W h.2.1 h.2.2 (ld_c W) i && (gc_Y s i).isNone) 0 1536 by omega, show ks - 14336 = 256 * kF (fun i => aS W h.2.1 h.2.2 (ld_c W) i && (gc_Y s i).isNone) 0 1536 by omega]
      exact this
    · rw [hb2]
      have hne : ¬ gc_be s = 46 := by omega
      rw [if_neg hne, Nat.zero_add] at hkc hks
      refine ⟨rfl, fun _ => ?_, fun y => absurd y (by decide)⟩
      have hg3 : gc_gk s3 (gc_be s3) = (0, 14336) := by
        rw [ebe3]
        unfold gc_gk
        rw [fr_n g, fr_D g]
        exact hb2
      have := go s3 0 ⟨hS2, hq.2.1, ⟨q0, q1, q2⟩, hq.2.2.2, by omega, hg3⟩ (cy_fr g) (by rw [eY, Nat.zero_add]; exact hkc)
      rw [eY, ← hks, ← hkc] at this
      exact this
  refine b_X5_settle_0 hP hm ⟨by decide, rfl⟩ ⟨fun z => main (fun y => y.1 z), fun z => ⟨by omega, b_X1_isAlike_0 hP hm ⟨by decide, rfl⟩ ⟨by decide, rfl⟩ ?_⟩⟩
  rw [hq.2.2.1.1, hq.2.2.1.2.1, hq.2.2.1.2.2]
  refine ⟨fun y => ⟨fun _ => main (fun w => y w.2.1), fun w => absurd rfl w⟩, fun y0 => ⟨fun y => ⟨fun _ => main (fun w => y w.2.2.1), fun w => absurd rfl w⟩, fun y1 => ⟨fun y => ⟨fun _ => main (fun w => y w.2.2.2), fun w => absurd rfl w⟩, fun y2 => ⟨fun w => absurd w (by decide), fun _ => ?_⟩⟩⟩⟩
  have hk0 := hk.1 ⟨z, y0, y1, y2⟩
  refine ⟨hk0, hQ s hq ?_ hb hst (hst z h (by omega) b1 b2 y0 y1 y2)⟩
  rw [hk0]
  exact cy_refl s
theorem stA_to {t : gc_St} (hA : stA W h t) {w : Nat} : (¬ gc_F t 44 3 = 0 → (w = 0 → gc_F t 44 4 = an_to W h w) ∧ (¬ w = 0 → gc_F t 44 5 = an_to W h w)) ∧ (gc_F t 44 3 = 0 → an_to W h w = -2) := by
  obtain ⟨r, K, h1, h2, h3⟩ := hA
  rw [← tg_to h1 w, h2]
  cases r with
  | none => exact ⟨fun y => absurd rfl y, fun _ => rfl⟩
  | some u =>
    obtain ⟨e1, e2, _⟩ := h3 u rfl
    refine ⟨fun _ => ⟨fun e => ?_, fun e => ?_⟩, fun y => absurd y (show (1 : Int32) ≠ 0 by decide)⟩
    · show _ = (if w = 0 then nI u.1 else nI u.2)
      rw [if_pos e]
      exact e1
    · show _ = (if w = 0 then nI u.1 else nI u.2)
      rw [if_neg e]
      exact e2
theorem sp_togetherC (hP : gc_Cl P) (hm : gc_Mo P) (hd : 8 ≤ d) (hq : cq W L v h s) (hb : bev s) (hst : stl W s) (hk : kSt W h s kc ks) {w : Nat} (hw : w < 2)
    (hQ : ∀ t, cq W L v h t → cy kc s t → bev t → stl W t → Q (some (.int (an_to W h w))) t) : gc_T P d kc ks 144 0 [.ref 0, .int (nI w)] [] s Q := by
  refine b_X10_together_0 hP hm ⟨fun y => absurd y (nI_pos (by omega)), fun _ => ⟨fun _ => ⟨by omega, kc, ks, Nat.le_refl _, Nat.le_refl _, ?_⟩, fun y => ?_⟩⟩
  · refine sp_settle hP hm (by omega) hq hb hst hk fun t t1 t2 t3 t4 t5 => ⟨fun z => ⟨fun e => ⟨Nat.sub_self _, ?_⟩, fun e => ⟨Nat.sub_self _, ?_⟩⟩, fun z => ⟨Nat.sub_self _, ?_⟩⟩
    · rw [((stA_to (w := w) t5).1 z).2 (fun e2 => e (by rw [e2]; rfl))]
      exact hQ t t1 t2 t3 t4
    · have e0 : w = 0 := by
        rw [show (0 : Int32) = nI 0 from rfl, nI_eq (by omega) (by omega)] at e
        exact e
      rw [((stA_to (w := w) t5).1 z).1 e0]
      exact hQ t t1 t2 t3 t4
    · rw [← (stA_to (w := w) t5).2 z]
      exact hQ t t1 t2 t3 t4
  · rw [show (1 : Int32) = nI 1 from rfl, nI_leI (by omega) (by decide)] at y
    omega
theorem sp_togetherN (hP : gc_Cl P) (hm : gc_Mo P) {w : Int32} (hw : ∀ k, k < 2 → w ≠ nI k) (hQ : Q (some (.int (-1))) s) : gc_T P d 0 0 144 0 [.ref 0, .int w] [] s Q := by
  refine b_X10_together_0 hP hm ⟨fun _ => ⟨rfl, hQ⟩, fun y => ⟨fun y2 => ?_, fun _ => ⟨rfl, hQ⟩⟩⟩
  obtain ⟨j, hj, rfl⟩ := nI_of y
  rw [show (1 : Int32) = nI 1 from rfl, nI_leI hj (by decide)] at y2
  exact absurd rfl (hw j (by omega))
theorem sp_partC (hP : gc_Cl P) (hm : gc_Mo P) (hd : 8 ≤ d) (hq : cq W L v h s) (hb : bev s) (hst : stl W s) (hk : kSt W h s kc ks) {k w : Nat} (hkc : k < ld_c W) (hw : w < 2)
    (hQ : ∀ t, cq W L v h t → cy kc s t → bev t → stl W t → Q (some (.int (an_pa W h k w))) t) : gc_T P d kc ks 145 0 [.ref 0, .int (nI k), .int (nI w)] [] s Q := by
  obtain ⟨b1, b2, hok⟩ := cq_b hq
  have hc6 := hok.1.2.2.2.1
  refine b_X10_part_0 hP hm ⟨by omega, sp_root hP hm hq.1.1 (fun k' hk' e => ⟨fun y => absurd y (m1_ne (by have := (ld_root hok hk').2; omega)), fun _ => ⟨fun y => absurd y (nI_pos (by omega)), fun _ => ⟨fun _ => ⟨by omega, kc, ks, Nat.le_refl _, Nat.le_refl _, ?_⟩, fun y => ?_⟩⟩⟩) (fun e => absurd rfl (e k hkc))⟩
  · refine sp_settle hP hm (by omega) hq hb hst hk fun t t1 t2 t3 t4 t5 => ?_
    have hfin := hQ t t1 t2 t3 t4
    obtain ⟨r, K, h1, h2, h3⟩ := t5
    rw [← tg_pa h1 hkc w] at hfin
    show (gc_F t 44 3 = 0 → _) ∧ _
    rw [h2]
    cases r with
    | none => exact ⟨fun _ => ⟨Nat.sub_self _, hfin⟩, fun y => absurd rfl y⟩
    | some u =>
      obtain ⟨_, e2, e3⟩ := h3 u rfl
      have hu := (TV_le hok (show 0 + ld_c W = ld_c W by omega) (show TV W h.2.1 (ld_c W) 0 h.1 h.2.2 u by
        rcases h1.1 with ⟨q1, _⟩ | ⟨u', q3, q4, _⟩
        · simp at q1
        · simp only [Option.some.injEq] at q3
          rw [q3]
          exact q4)).2
      have hfin : Q (some (.int (if u.2 / 2 ^ k % 2 = 1 then (if w = 0 then nI (K k / 8) else nI (K k % 8)) else -2))) t := hfin
      refine ⟨fun y => absurd y (show (1 : Int32) ≠ 0 by decide), fun _ => ⟨by omega, ?_⟩⟩
      rw [e2]
      refine sp_hasBit hP hm (by omega) (by omega) ⟨fun z => ?_, fun z => ⟨Nat.sub_self _, ?_⟩⟩
      · have hbit : u.2 / 2 ^ k % 2 = 1 := by
          by_cases e : u.2 / 2 ^ k % 2 = 1
          · exact e
          · rw [decide_eq_false e] at z
            exact absurd rfl z
        obtain ⟨p1, p2⟩ := e3 k hkc hbit
        rw [if_pos hbit] at hfin
        rw [nI_clamp (by omega), p1, p2]
        refine ⟨fun e => ⟨vp_in_nI (by omega) (by decide), Nat.sub_self _, ?_⟩, fun e => ⟨vp_in_nI (by omega) (by decide), Nat.sub_self _, ?_⟩⟩
        · rw [if_neg (fun e2 => e (by rw [e2]; rfl))] at hfin
          exact hfin
        · rw [show (0 : Int32) = nI 0 from rfl, nI_eq (by omega) (by omega)] at e
          rw [if_pos e] at hfin
          exact hfin
      · have hbit : ¬ u.2 / 2 ^ k % 2 = 1 := by
          intro e
          rw [decide_eq_true e] at z
          exact absurd z (by decide)
        rw [if_neg hbit] at hfin
        exact hfin
  · rw [show (1 : Int32) = nI 1 from rfl, nI_leI (by omega) (by decide)] at y
    omega
theorem sp_partN (hP : gc_Cl P) (hm : gc_Mo P) (hd : 1 ≤ d) (hq : cq W L v h s) {c w : Int32} (hc : (∀ k, k < ld_c W → c ≠ nI k) ∨ (∀ k, k < 2 → w ≠ nI k)) (hQ : Q (some (.int (-1))) s) : gc_T P d 0 0 145 0 [.ref 0, .int c, .int w] [] s Q := by
  refine b_X10_part_0 hP hm ⟨hd, sp_root hP hm hq.1.1 (fun k' hk' e => ⟨fun y => ⟨rfl, hQ⟩, fun _ => ⟨fun _ => ⟨rfl, hQ⟩, fun y => ⟨fun y2 => ?_, fun _ => ⟨rfl, hQ⟩⟩⟩⟩) (fun _ => ⟨fun _ => ⟨rfl, hQ⟩, fun y => absurd rfl y⟩)⟩
  rcases hc with z | z
  · exact absurd e (z k' hk')
  · obtain ⟨j, hj, rfl⟩ := nI_of y
    rw [show (1 : Int32) = nI 1 from rfl, nI_leI hj (by decide)] at y2
    exact absurd rfl (z j (by omega))
end Tg6
