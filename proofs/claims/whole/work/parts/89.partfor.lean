/-! The class: the parts of the CLAIMS. -/
def BPt (a : Nat) : Bool := Nat.beq a 47 || Nat.beq a 48
theorem BPt_iff {a : Nat} : BPt a = true ↔ a = 47 ∨ a = 48 := by
  unfold BPt
  rw [Bool.or_eq_true, Nat.beq_eq, Nat.beq_eq]
theorem cv_sub (a k : Nat) (v : Nat × Nat) : cv (some (up2 a k v)) - (nI (64 * a) - nI k) = cv (some v) := by
  rw [← cv_add, Int32.add_sub_cancel]
section Tg3
variable {P : gc_Pr} {d : Nat} {s : gc_St} {Q : gc_TQ} {W : ld_W} {L v o : Nat} {h : Nat × Nat × Nat}
theorem cl_c (h : cl_C W L s) : gc_F s L 3 = nI (ld_c W) := h.2.2.1.1.2.2.2.1
theorem tq_fr {t : gc_St} (hq : tq W L v h s) (g : fr A0 BPt s t) : tq W L v h t := by
  obtain ⟨h1, h2, h3, h4, h5, h6⟩ := hq
  refine ⟨mvS_fr h1 g ⟨rfl, fun _ => ⟨rfl, rfl⟩⟩ (fun a z => bf fun y => by have := BPt_iff.mp y; omega), h2, ?_, h4, ?_, ?_⟩
  · rw [fr_F g rfl, fr_F g rfl, fr_F g rfl]
    exact h3
  · rw [fr_be g]
    exact h5
  · rw [fr_be g]
    unfold gc_gk
    rw [fr_n g, fr_D g]
    exact h6
/-- the tables of all from c on, and the rows they rest on -/
def tal (W : ld_W) (v : Nat) (h : Nat × Nat × Nat) (s : gc_St) : Prop := (∀ c, c ≤ ld_c W → tbl W h.2.1 h.2.2 h.1 c (gc_I s (gc_be s))) ∧ ∀ c dd, c < ld_c W → dd < 8 → sb_in dd h.2.2 = true → gc_I s 24 (cl_num h.2.1 (ld_ro W c) dd) = nI v
theorem tal_fr {t : gc_St} (hq : tq W L v h s) (ha : tal W v h s) (g : fr A0 BPt s t) : tal W v h t := by
  have h5 := hq.2.2.2.2.1
  refine ⟨fun c hc => ?_, fun c dd h1 h2 h3 => ?_⟩
  · rw [fr_be g, fr_I g (bf fun y => by have := BPt_iff.mp y; omega)]
    exact ha.1 c hc
  · rw [fr_I g (bf fun y => by have := BPt_iff.mp y; omega)]
    exact ha.2 c dd h1 h2 h3
theorem sp_partFor (hP : gc_Cl P) (hm : gc_Mo P) (hd : 3 ≤ d) (hq : tq W L v h s) (ha : tal W v h s) {c st b : Nat} {w w' : Nat × Nat} (hc : c < ld_c W) (hst : st ≤ h.1) (hb : b < 8) (hbh : sb_in b h.2.2 = true) (hS : w.2 % 2 ^ c = 0) (hbit : w.2 / 2 ^ c % 2 = 1) (hRV : RV (TV W h.2.1 (ld_c W - (c + 1) + 1) c st b) (some w)) (hw : w = up2 (ld_wo W c) (2 ^ c) w') (hw2 : w'.2 = w.2 - 2 ^ c)
    (hQ : ∀ t k, fpL W h.2.1 c w.2 st b k → fr A0 BPt s t → gc_I t 47 c = nI (k / 8) → gc_I t 48 c = nI (k % 8) → (∀ j, j ≠ c → gc_I t 47 j = gc_I s 47 j ∧ gc_I t 48 j = gc_I s 48 j) → Q none t) :
    gc_T P d 0 0 72 0 [.ref 44, .int (nI c), .int (nI st), .int (nI b), .int (cv (some w')), gc_u, gc_u, gc_u] [] s Q := by
  obtain ⟨b1, b2, hok⟩ := tq_b hq
  have hc6 := hok.1.2.2.2.1
  have hN := ld_N_le hok
  have hsN := hq.2.2.2.1.1
  have hr := ld_root hok hc
  obtain ⟨hle, hmod⟩ := bit_split hS hbit
  obtain ⟨u', eu, eu2, ⟨x0, d0, y1, y2, y3, y4, y5, y6⟩, hall⟩ := (RV_rest hRV).2 hbit
  have euw : u' = w' := by
    rw [hw] at eu
    unfold up2 at eu
    have e1 := congrArg Prod.fst eu
    have e2 := congrArg Prod.snd eu
    exact Prod.ext (by have : w'.1 + ld_wo W c = u'.1 + ld_wo W c := e1; omega) (by have : w'.2 + 2 ^ c = u'.2 + 2 ^ c := e2; omega)
  rw [euw] at y6 hall
  have hwts : w'.1 = wts W w'.2 (ld_c W - (c + 1)) (c + 1) := TV_w _ _ _ _ _ y6
  have hbd := TV_le hok (show c + 1 + (ld_c W - (c + 1)) = ld_c W by omega) y6
  have hcA : ∀ s' b', TV W h.2.1 (ld_c W - (c + 1)) (c + 1) s' b' w' ↔ cA W h.2.1 (w.2 - 2 ^ c) s' b' := by
    intro s' b'
    rw [TV_cA (by omega) (by rw [hw2]; exact hmod) hwts, hw2]
  have hex : fpP W h.2.1 c w.2 st b (8 * x0 + d0) := by
    unfold fpP
    rw [show (8 * x0 + d0) / 8 = x0 by omega, show (8 * x0 + d0) % 8 = d0 by omega]
    exact ⟨y1, y2, y3, y5, (hcA _ _).mp y6⟩
  have hx0 := st_in_le (show st < 256 by omega) y2 y1
  refine b_X5_partFor_0 hP hm ?_
  rw [nI_clamp (by omega)]
  have g0 : fr A0 BPt s (gc_wI (gc_wI s 47 c 0) 48 c 0) := fr_wI (BPt_iff.mpr (Or.inr rfl)) (fr_wI (BPt_iff.mpr (Or.inl rfl)) (fr_refl s))
  have same0 : ∀ j, j ≠ c → gc_I (gc_wI (gc_wI s 47 c 0) 48 c 0) 47 j = gc_I s 47 j ∧ gc_I (gc_wI (gc_wI s 47 c 0) 48 c 0) 48 j = gc_I s 48 j := by
    intro j hj
    rw [I_ne _ _ (Or.inl (by decide)), I_ne _ _ (Or.inr hj), I_ne _ _ (Or.inr hj), I_ne _ _ (Or.inl (by decide))]
    exact ⟨rfl, rfl⟩
  have hq1 := tq_fr hq g0
  have ha1 := tal_fr hq ha g0
  refine ⟨vp_in_nI (by omega) (by decide), vp_in_nI (by omega) (by decide), ?_⟩
  revert g0 same0 hq1 ha1
  generalize gc_wI (gc_wI s 47 c 0) 48 c 0 = s1
  intro g0 same0 hq1 ha1
  rw [show gc_lw s = L from hq.1.1.2.1, cl_ro hq1.1.1.2.2.1 hc]
  refine ⟨cl_io hq.1.1.1, vp_in_nI (by omega) (by decide), ?_⟩
  have hgk : gc_gk s1 (gc_be s1) = (0, 14336) := hq1.2.2.2.2.2
  have hF1 : gc_F s1 45 1 = nI h.2.1 := hq1.2.2.1.2.1
  -- STOCKS
  have outer : ∀ m x, x + m = st + 1 → ∀ l7 : Value, (∀ j, j < 8 * x → ¬ fpP W h.2.1 c w.2 st b j) → gc_T P d 0 0 72 31 [.ref 44, .int (nI c), .int (nI st), .int (nI b), .int (cv (some w')), .int (nI (ld_ro W c)), .int (nI x), l7] [] s1 Q := by
    intro m
    induction m with
    | zero =>
      intro x hx l7 hno
      exact absurd hex (hno _ (by omega))
    | succ m ih =>
      intro x hx l7 hno
      refine b_X5_partFor_31 hP hm (pk_lt st x (fun z => by omega) (fun _ => ?_))
      have leave : ∀ l7, (∀ j, j < 8 * (x + 1) → ¬ fpP W h.2.1 c w.2 st b j) → gc_T P d 0 0 72 135 [.ref 44, .int (nI c), .int (nI st), .int (nI b), .int (cv (some w')), .int (nI (ld_ro W c)), .int (nI x), .int l7] [] s1 Q := by
        intro l7 h1
        refine b_X5_partFor_135 hP hm ?_
        rw [nI_1]
        exact ih (x + 1) (by omega) _ h1
      have inner : ∀ m2 dd, dd + m2 = b + 1 → (∀ j, j < 8 * x + dd → ¬ fpP W h.2.1 c w.2 st b j) → gc_T P d 0 0 72 40 [.ref 44, .int (nI c), .int (nI st), .int (nI b), .int (cv (some w')), .int (nI (ld_ro W c)), .int (nI x), .int (nI dd)] [] s1 Q := by
        intro m2
        induction m2 with
        | zero =>
          intro dd hdd hno2
          refine b_X5_partFor_40 hP hm (pk_lt b dd (fun _ => leave _ fun j hj => ?_) (fun z => by omega))
          by_cases e : j < 8 * x + dd
          · exact hno2 j e
          · intro z
            have := (sb_le b hb (j % 8) (by omega) z.2.2.1).1
            omega
        | succ m2 ih2 =>
          intro dd hdd hno2
          have next : ¬ fpP W h.2.1 c w.2 st b (8 * x + dd) → gc_T P d 0 0 72 129 [.ref 44, .int (nI c), .int (nI st), .int (nI b), .int (cv (some w')), .int (nI (ld_ro W c)), .int (nI x), .int (nI dd)] [] s1 Q := by
            intro h1
            refine b_X5_partFor_129 hP hm ?_
            rw [nI_1]
            refine ih2 (dd + 1) (by omega) fun j hj => ?_
            by_cases e : j = 8 * x + dd
            · rw [e]
              exact h1
            · exact hno2 j (by omega)
          have hfp : fpP W h.2.1 c w.2 st b (8 * x + dd) ↔ st_in x st = true ∧ x < 256 ∧ sb_in dd b = true ∧ dp_D W h.2.1 (ld_ro W c) x dd ≠ 0 ∧ cA W h.2.1 (w.2 - 2 ^ c) (st - x) (b - dd) := by
            unfold fpP
            rw [show (8 * x + dd) / 8 = x by omega, show (8 * x + dd) % 8 = dd by omega]
          refine b_X5_partFor_40 hP hm (pk_lt b dd (fun z => by omega) (fun _ => ⟨by omega, sp_isWithin hP hm (by omega) (show st < 256 by omega) (show x < 256 by omega) ⟨fun z => leave _ fun j hj => ?_, fun z => ?_⟩⟩))
          · by_cases e : j < 8 * x
            · exact hno j e
            · intro z2
              have hj8 : j / 8 = x := by omega
              have z3 := z2.1
              rw [hj8] at z3
              rw [if_pos z3] at z
              exact absurd z (show (1 : Int32) ≠ 0 by decide)
          · have hin : st_in x st = true := by
              cases e : st_in x st with
              | false => rw [e] at z; exact absurd rfl z
              | true => rfl
            refine ⟨by omega, sp_isSubset hP hm (by omega) hb ⟨fun z2 => next fun z3 => ?_, fun z2 => ?_⟩⟩
            · have := (hfp.mp z3).2.2.1
              rw [this] at z2
              exact absurd z2 (by decide)
            · have hdb : sb_in dd b = true := by
                cases e : sb_in dd b with
                | false => rw [e] at z2; exact absurd rfl z2
                | true => rfl
              have hdh : sb_in dd h.2.2 = true := sb_tr _ b2 b hb hbh dd (by omega) hdb
              rw [hF1]
              have hDm := dp_D_max (o := h.2.1) hok hr.1 (show x < ld_N W by omega) (show dd < 8 by omega)
              refine ⟨by omega, sp_least hP hm (by omega) hok hq1.1.2 b1 hr.1 (show dd < 8 by omega) (show x < ld_N W by omega) (ha1.2 c dd hc (by omega) hdh) (pk_le (dp_D W h.2.1 (ld_ro W c) x dd) 0 (fun hD => next fun z3 => (hfp.mp z3).2.2.2.1 (by omega)) (fun hD => ⟨by omega, ?_⟩))⟩
              rw [nI_1, pk_sub (show dd ≤ b by omega)]
              refine sp_at hP hm ?_
              have hbd2 := (sb_le b hb dd (by omega) hdb).2
              obtain ⟨r, r1, r2⟩ := ha1.1 (c + 1) (by omega) (b - dd) (by omega) (sb_tr _ b2 b hb hbh _ (by omega) hbd2) (st - x) (by omega)
              have hi : ix (c + 1) (b - dd) 0 + st - x = ix (c + 1) (b - dd) (st - x) := by
                unfold ix
                omega
              have hilt : ix (c + 1) (b - dd) (st - x) < 14336 := by
                unfold ix
                omega
              have hcell : gc_I s1 (gc_be s1) (ix (c + 1) (b - dd) (st - x)) = cv (some w') ↔ cA W h.2.1 (w.2 - 2 ^ c) (st - x) (b - dd) := by
                rw [r2, ← hcA]
                constructor
                · intro e
                  rcases r1 with ⟨r3, _⟩ | ⟨u, r3, r4, _⟩
                  · rw [r3] at e
                    exact absurd e.symm (cv_imp hbd.1 hbd.2)
                  · rw [r3] at e
                    have hb3 := TV_le hok (show c + 1 + (ld_c W - (c + 1)) = ld_c W by omega) r4
                    rw [← cv_inj (by omega) hb3.2 (by omega) hbd.2 e]
                    exact r4
                · intro e
                  rw [RV_uniq r1 (hall x dd hin (by omega) hdb (by omega) (by omega) e)]
              show (gc_gk s1 (gc_be s1)).1 = 0 ∧ vp_in (nI (ix (c + 1) (b - dd) 0) + nI st - nI x) (gc_gk s1 (gc_be s1)).2 ∧ _
              rw [hgk, nI_add, pk_sub (show x ≤ ix (c + 1) (b - dd) 0 + st by omega), hi, nI_clamp (by omega), nI_clamp (by omega)]
              refine ⟨rfl, vp_in_nI hilt (by decide), fun e => next fun z3 => e (hcell.mpr (hfp.mp z3).2.2.2.2), fun e => ⟨vp_in_nI (by omega) (by decide), vp_in_nI (by omega) (by decide), ?_⟩⟩
              refine hQ _ (8 * x + dd) ⟨hfp.mpr ⟨hin, by omega, hdb, by omega, hcell.mp e⟩, hno2⟩ (fr_wI (BPt_iff.mpr (Or.inr rfl)) (fr_wI (BPt_iff.mpr (Or.inl rfl)) g0)) ?_ ?_ fun j hj => ?_
              · rw [I_ne _ _ (Or.inl (by decide)), I_eq, show (8 * x + dd) / 8 = x by omega]
              · rw [I_eq, show (8 * x + dd) % 8 = dd by omega]
              · rw [I_ne _ _ (Or.inl (by decide)), I_ne _ _ (Or.inr hj), I_ne _ _ (Or.inr hj), I_ne _ _ (Or.inl (by decide))]
                exact same0 j hj
      exact inner (b + 1) 0 (by omega) (fun j hj => hno j (by omega))
  exact outer (st + 1) 0 (by omega) _ (fun j hj => absurd hj (by omega))
/-- the parts stand in the rows -/
def ptd (t : gc_St) (K : Nat → Nat) (j : Nat) : Prop := gc_I t 47 j = nI (K j / 8) ∧ gc_I t 48 j = nI (K j % 8)
theorem sp_partAll (hP : gc_Cl P) (hm : gc_Mo P) (hd : 4 ≤ d) {S0 : Nat} (hS64 : S0 < 64) : ∀ m c st b (w : Nat × Nat) (s : gc_St) (l1 : Int32), tq W L v h s → tal W v h s → gc_F s 44 5 = nI S0 → c + m = ld_c W → st ≤ h.1 → b < 8 → sb_in b h.2.2 = true → w.2 % 2 ^ c = 0 → (∀ j, c ≤ j → S0 / 2 ^ j % 2 = w.2 / 2 ^ j % 2) → RV (TV W h.2.1 m c st b) (some w) →
    (∀ t K, fr A0 BPt s t → PA W h.2.1 K m c st b w.2 → (∀ j, c ≤ j → j < ld_c W → w.2 / 2 ^ j % 2 = 1 → ptd t K j) → (∀ j, j < c → gc_I t 47 j = gc_I s 47 j ∧ gc_I t 48 j = gc_I s 48 j) → Q none t) → gc_T P d 0 0 71 22 [.ref 44, .int l1, .int (cv (some w)), .int (nI st), .int (nI b), .int (nI c)] [] s Q := by
  intro m
  induction m with
  | zero =>
    intro c st b w s l1 hq ha hF hc hst hb hbh hS hbits hRV hQ
    have hC := hq.1.1
    have hc6 := hC.2.2.2.1.1.2.2.2.1
    refine b_X5_partAll_22 hP hm ?_
    rw [hC.2.1, cl_c hC]
    exact ⟨cl_io hC.1, pk_le (ld_c W) c (fun _ => hQ s (fun _ => 0) (fr_refl s) trivial (fun j h1 h2 => by omega) (fun _ _ => ⟨rfl, rfl⟩)) (fun z => by omega)⟩
  | succ m ih =>
    intro c st b w s l1 hq ha hF hc hst hb hbh hS hbits hRV hQ
    obtain ⟨b1, b2, hok⟩ := tq_b hq
    have hC := hq.1.1
    have hc6 := hok.1.2.2.2.1
    have hN := ld_N_le hok
    have hsN := hq.2.2.2.1.1
    refine b_X5_partAll_22 hP hm ?_
    rw [hC.2.1, cl_c hC, hF]
    refine ⟨cl_io hC.1, pk_le (ld_c W) c (fun z => by omega) (fun _ => ⟨by omega, sp_hasBit hP hm (by omega) (by omega) ⟨fun z => b_X5_partAll_90 hP hm ?_, fun z => ⟨by omega, sp_valueOf hP hm hC (by omega) ⟨by omega, ?_⟩⟩⟩⟩)⟩
    · have hnb : ¬ w.2 / 2 ^ c % 2 = 1 := by
        intro e
        rw [← hbits c (Nat.le_refl _)] at e
        rw [decide_eq_true e] at z
        exact absurd z (by decide)
      rw [nI_1]
      refine ih (c + 1) st b w s l1 hq ha hF (by omega) hst hb hbh (mod_up hS hnb) (fun j hj => hbits j (by omega)) ((RV_rest hRV).1 hnb) fun t K k1 k2 k3 k4 => hQ t K k1 ((PA_0 hnb).mpr k2) (fun j h1 h2 h3 => k3 j (by have : j ≠ c := fun z => hnb (z ▸ h3); omega) h2 h3) (fun j hj => k4 j (by omega))
    · have hbit : w.2 / 2 ^ c % 2 = 1 := by
        rw [← hbits c (Nat.le_refl _)]
        by_cases e : S0 / 2 ^ c % 2 = 1
        · exact e
        · rw [decide_eq_false e] at z
          exact absurd rfl z
      obtain ⟨w', ew, ew2, _, hall⟩ := (RV_rest hRV).2 hbit
      obtain ⟨hle, hmod⟩ := bit_split hS hbit
      have hmm : m = ld_c W - (c + 1) := by omega
      have ecv : cv (some w) - (nI (64 * ld_wo W c) - nI (2 ^ c)) = cv (some w') := by
        rw [ew, cv_sub]
      rw [ecv]
      refine sp_partFor hP hm (by omega) hq ha (by omega) hst hb hbh hS hbit (by rw [← hmm]; exact hRV) ew ew2 fun t k k1 k2 k3 k4 k5 => ?_
      obtain ⟨⟨f1, f2, f3, f4, w0, f5⟩, _⟩ := id k1
      have hk := st_in_le (show st < 256 by omega) f2 f1
      obtain ⟨hd1, hd2⟩ := sb_le b hb (k % 8) (by omega) f3
      have hTV : TV W h.2.1 m (c + 1) (st - k / 8) (b - k % 8) w' := by
        have hex := (RV_rest hRV).2 hbit
        obtain ⟨w2, ew3, _, ⟨x0, d0, _, _, _, _, _, y6⟩, _⟩ := hex
        have e3 : w2 = w' := by
          rw [ew] at ew3
          unfold up2 at ew3
          have e1 := congrArg Prod.fst ew3
          have e2 := congrArg Prod.snd ew3
          exact Prod.ext (by have : w'.1 + ld_wo W c = w2.1 + ld_wo W c := e1; omega) (by have : w'.2 + 2 ^ c = w2.2 + 2 ^ c := e2; omega)
        rw [e3] at y6
        have hwts : w'.1 = wts W w'.2 m (c + 1) := TV_w _ _ _ _ _ y6
        rw [hmm] at hwts ⊢
        rw [TV_cA (by omega) (by rw [ew2]; exact hmod) hwts, ew2]
        exact ⟨w0, f5⟩
      have hq2 := tq_fr hq k2
      have ha2 := tal_fr hq ha k2
      refine ⟨vp_in_nI (by omega) (by decide), vp_in_nI (by omega) (by decide), b_X5_partAll_90 hP hm ?_⟩
      rw [nI_clamp (by omega), k3, k4, pk_sub (by omega), pk_sub (by omega), nI_1]
      refine ih (c + 1) (st - k / 8) (b - k % 8) w' t l1 hq2 ha2 ((fr_F k2 rfl).trans hF) (by omega) (by omega) (by omega) (sb_tr _ b2 b hb hbh _ (by omega) hd2) (by rw [ew2]; exact hmod) (fun j hj => ?_) (hall _ _ f1 f2 f3 (by omega) f4 hTV) fun u K q1 q2 q3 q4 => ?_
      · rw [hbits j (by omega), ew2, bit_less hS hbit (by omega)]
      · have hu : ∀ j, gc_I u 47 j = gc_I u 47 j := fun _ => rfl
        refine hQ u (fun j => if j = c then k else K j) (fr_trans k2 q1) ((PA_1 hbit).mpr ?_) (fun j h1 h2 h3 => ?_) (fun j hj => ?_)
        · show fpL W h.2.1 c w.2 st b (if c = c then k else K c) ∧ PA W h.2.1 _ m (c + 1) (st - (if c = c then k else K c) / 8) (b - (if c = c then k else K c) % 8) (w.2 - 2 ^ c)
          rw [if_pos rfl, ← ew2]
          exact ⟨k1, PA_congr m (c + 1) _ _ _ (fun j h1 h2 => by rw [if_neg (by omega)]) q2⟩
        · show gc_I u 47 j = nI ((if j = c then k else K j) / 8) ∧ gc_I u 48 j = nI ((if j = c then k else K j) % 8)
          by_cases e : j = c
          · rw [if_pos e, e]
            obtain ⟨p1, p2⟩ := q4 c (by omega)
            rw [p1, p2]
            exact ⟨k3, k4⟩
          · rw [if_neg e]
            exact q3 j (by omega) h2 (by rw [ew2, bit_less hS hbit (by omega)]; exact h3)
        · obtain ⟨p1, p2⟩ := q4 j (by omega)
          obtain ⟨p3, p4⟩ := k5 j (by omega)
          exact ⟨p1.trans p3, p2.trans p4⟩
end Tg3
