/-! The class: TOGETHER's table filled, the parts found. -/
theorem wR_wR (s : gc_St) (a : Nat) (f g : Nat → Int32) : gc_wR (gc_wR s a f) a g = gc_wR s a g := by
  refine gc_ext rfl ?_ rfl
  funext q j
  show gc_I (gc_wR (gc_wR s a f) a g) q j = gc_I (gc_wR s a g) q j
  by_cases e : q = a
  · rw [e, I_wR, I_wR]
  · rw [I_wRn _ _ e, I_wRn _ _ e, I_wRn _ _ e]
section Tg2
variable {P : gc_Pr} {d : Nat} {s : gc_St} {Q : gc_TQ} {W : ld_W} {L v o : Nat} {h : Nat × Nat × Nat}
theorem cnd_F {c all sx : Nat} {v : Nat × Nat} : cnd W o c all sx (fun _ _ => False) v ↔ TV W o (ld_c W - (c + 1)) (c + 1) sx all v :=
  ⟨fun z => z.elim id (fun ⟨_, _, _, z, _⟩ => z.elim), Or.inl⟩
theorem cnd_T {c all sx : Nat} {Pr : Nat → Nat → Prop} {v : Nat × Nat} (hc : c < ld_c W) (hPr : ∀ d x, d < 8 → sb_in d all = true → Pr d x) : cnd W o c all sx Pr v ↔ TV W o (ld_c W - c) c sx all v := by
  rw [show ld_c W - c = ld_c W - (c + 1) + 1 by omega]
  constructor
  · rintro (z | ⟨x, dd, v', _, h2, h3, h4, h5, h6, h7, h8⟩)
    · exact Or.inl z
    · exact Or.inr ⟨x, dd, v', h2, h3, h4, h5, h6, h7, h8⟩
  · rintro (z | ⟨x, dd, v', h2, h3, h4, h5, h6, h7, h8⟩)
    · exact Or.inl z
    · exact Or.inr ⟨x, dd, v', hPr dd x h5 h4, h2, h3, h4, h5, h6, h7, h8⟩
/-- rows of the BARGAINS below one -/
def tbp (W : ld_W) (o bh sh c n : Nat) (f : Nat → Int32) : Prop := ∀ b, b < n → b < 8 → sb_in b bh = true → ∀ st, st ≤ sh → ∃ r, RV (TV W o (ld_c W - c) c st b) r ∧ f (ix c b st) = cv r
theorem sp_fillFrom (hP : gc_Cl P) (hm : gc_Mo P) (hd : 4 ≤ d) (hq : tq W L v h s) {c : Nat} (hc : c < ld_c W) (hv : gc_I s 24 (cl_num h.2.1 (ld_ro W c) h.2.2) = nI v) {f : Nat → Int32} (hT : tbl W h.2.1 h.2.2 h.1 (c + 1) f)
    (hQ : ∀ f', (∀ i, (i < ix c 0 0 ∨ ix (c + 1) 0 0 ≤ i) → f' i = f i) → tbl W h.2.1 h.2.2 h.1 c f' → Q none (gc_wR s (gc_be s) f')) :
    gc_T P d 0 0 69 0 [.ref 44, .int (nI c), gc_u, gc_u] [] (gc_wR s (gc_be s) f) Q := by
  obtain ⟨b1, b2, hok⟩ := tq_b hq
  have hc6 := hok.1.2.2.2.1
  have hN := ld_N_le hok
  have hsN := hq.2.2.2.1.1
  have hr := ld_root hok hc
  have hgk : ∀ f, gc_gk (gc_wR s (gc_be s) f) (gc_be s) = (0, 14336) := fun _ => hq.2.2.2.2.2
  have hbe : ∀ f, gc_be (gc_wR s (gc_be s) f) = gc_be s := fun _ => rfl
  have hF2 : ∀ f, gc_F (gc_wR s (gc_be s) f) 45 2 = nI h.2.2 := fun _ => hq.2.2.1.2.2
  have hcl := (hq.1.2.2.2.2 h.2.1 (ld_ro W c) h.2.2 b1 hr.1 b2 hv).2
  have hvd : ∀ dd, dd < 8 → sb_in dd h.2.2 = true → gc_I s 24 (cl_num h.2.1 (ld_ro W c) dd) = nI v := fun dd h1 h2 => hcl _ dd (ld_lo_le hok _ hr.1) (Nat.le_refl _) h1 h2
  refine b_X5_fillFrom_0 hP hm ?_
  have outer : ∀ m all, all + m = h.2.2 + 1 → ∀ (f' : Nat → Int32) (l3 : Value), (∀ i, (i < ix c 0 0 ∨ ix (c + 1) 0 0 ≤ i) → f' i = f i) → tbp W h.2.1 h.2.2 h.1 c all f' → gc_T P d 0 0 69 2 [.ref 44, .int (nI c), .int (nI all), l3] [] (gc_wR s (gc_be s) f') Q := by
    intro m
    induction m with
    | zero =>
      intro all he f' l3 f1 f2
      refine b_X5_fillFrom_2 hP hm ?_
      rw [hF2]
      refine pk_lt h.2.2 all (fun _ => hQ f' f1 fun b hb hin st hst => ?_) (fun z => by omega)
      have := (sb_le _ b2 b hb hin).1
      exact f2 b (by omega) hb hin st hst
    | succ m ih =>
      intro all he f' l3 f1 f2
      have hall : all < 8 := by omega
      have next : ∀ (f'' : Nat → Int32) (l3 : Value), (∀ i, (i < ix c 0 0 ∨ ix (c + 1) 0 0 ≤ i) → f'' i = f i) → tbp W h.2.1 h.2.2 h.1 c (all + 1) f'' → gc_T P d 0 0 69 81 [.ref 44, .int (nI c), .int (nI all), l3] [] (gc_wR s (gc_be s) f'') Q := by
        intro f'' l3 g1 g2
        refine b_X5_fillFrom_81 hP hm ?_
        rw [nI_1]
        exact ih (all + 1) (by omega) f'' l3 g1 g2
      refine b_X5_fillFrom_2 hP hm ?_
      rw [hF2]
      refine pk_lt h.2.2 all (fun z => by omega) (fun _ => ⟨by omega, sp_isSubset hP hm hall b2 ⟨fun z => ?_, fun z => ?_⟩⟩)
      · refine next f' _ f1 fun b hb hb8 hin st hst => ?_
        by_cases e : b = all
        · rw [e] at hin
          rw [hin] at z
          exact absurd z (by decide)
        · exact f2 b (by omega) hb8 hin st hst
      · have hab : sb_in all h.2.2 = true := by
          cases e : sb_in all h.2.2 with
          | false => rw [e] at z; exact absurd rfl z
          | true => rfl
        rw [nI_1]
        refine ⟨by omega, sp_at hP hm ⟨by omega, sp_at hP hm ?_⟩⟩
        have hx1 : ix (c + 1) all 0 + 256 ≤ 14336 := by
          unfold ix
          omega
        have hx2 : ix c all 0 + 256 ≤ 14336 := by
          unfold ix
          omega
        have e256 : (256 : Int32).toNatClampNeg = 256 := by decide
        refine ⟨by omega, nI_pos (by omega), nI_pos (by omega), by decide, congrArg Prod.fst hq.2.2.2.2.2, congrArg Prod.fst hq.2.2.2.2.2, ?_, ?_, ?_⟩
        · rw [hbe, hgk, nI_clamp (by omega), e256]
          exact hx1
        · rw [hbe, hgk, nI_clamp (by omega), e256]
          exact hx2
        rw [hbe, nI_clamp (by omega), nI_clamp (by omega), I_wR, e256, wR_wR]
        -- the row copied
        have inner : ∀ m2 dd, dd + m2 = all + 1 → ∀ (f'' : Nat → Int32), (∀ i, (i < ix c all 0 ∨ ix c all 0 + 256 ≤ i) → f'' i = f' i) → tbc W h.2.1 h.1 c all (fun d' _ => d' < dd) f'' 0 256 → gc_T P d 0 0 69 55 [.ref 44, .int (nI c), .int (nI all), .int (nI dd)] [] (gc_wR s (gc_be s) f'') Q := by
          intro m2
          induction m2 with
          | zero =>
            intro dd he2 f'' g1 g2
            refine b_X5_fillFrom_55 hP hm (pk_lt all dd (fun _ => next f'' _ (fun i hi => ?_) (fun b hb hb8 hin st hst => ?_)) (fun z => by omega))
            · rw [g1 i (by unfold ix at hi ⊢; omega)]
              exact f1 i hi
            · by_cases e : b = all
              · rw [e]
                obtain ⟨r, r1, r2⟩ := g2 st (by omega) (by omega) hst
                exact ⟨r, RV_congr (fun v' => cnd_T hc (fun d' _ h1 h2 => by have := (sb_le all hall d' h1 h2).1; omega)) r1, r2⟩
              · rw [g1 _ (by unfold ix; omega)]
                exact f2 b (by omega) hb8 hin st hst
          | succ m2 ih2 =>
            intro dd he2 f'' g1 g2
            have hdd : dd < 8 := by omega
            have fin : ∀ (f3 : Nat → Int32), (∀ i, (i < ix c all 0 ∨ ix c all 0 + 256 ≤ i) → f3 i = f' i) → tbc W h.2.1 h.1 c all (fun d' _ => d' < dd + 1) f3 0 256 → gc_T P d 0 0 69 75 [.ref 44, .int (nI c), .int (nI all), .int (nI dd)] [] (gc_wR s (gc_be s) f3) Q := by
              intro f3 k1 k2
              refine b_X5_fillFrom_75 hP hm ?_
              rw [nI_1]
              exact ih2 (dd + 1) (by omega) f3 k1 k2
            refine b_X5_fillFrom_55 hP hm (pk_lt all dd (fun z => by omega) (fun _ => ⟨by omega, sp_isSubset hP hm hdd hall ⟨fun z2 => ?_, fun z2 => ?_⟩⟩))
            · refine fin f'' g1 fun st h1 h2 h3 => ?_
              obtain ⟨r, r1, r2⟩ := g2 st h1 h2 h3
              refine ⟨r, RV_congr (fun v' => cnd_pr fun d' x' _ _ hin _ => ?_) r1, r2⟩
              constructor
              · intro y
                omega
              · intro y
                have : d' ≠ dd := by
                  intro e
                  rw [e] at hin
                  rw [hin] at z2
                  exact absurd z2 (by decide)
                omega
            · have hda : sb_in dd all = true := by
                cases e : sb_in dd all with
                | false => rw [e] at z2; exact absurd rfl z2
                | true => rfl
              refine ⟨by omega, sp_withClaim hP hm (by omega) hq hc hall hab hdd hda (hvd dd hdd (sb_tr _ b2 all hall hab dd hdd hda)) (Pr := fun d' _ => d' < dd) (fun b hb hin st hst => ?_) g2 fun f3 k1 k2 => fin f3 (fun i hi => (k1 i hi).trans (g1 i hi)) fun st h1 h2 h3 => ?_⟩
              · rw [g1 _ (by unfold ix; omega), f1 _ (by unfold ix; omega)]
                exact hT b hb hin st hst
              · obtain ⟨r, r1, r2⟩ := k2 st h1 h2 h3
                exact ⟨r, RV_congr (fun v' => cnd_pr fun d' x' _ _ _ _ => by constructor <;> intro y <;> omega) r1, r2⟩
        refine inner (all + 1) 0 (by omega) _ (fun i hi => ?_) (fun st h1 h2 h3 => ?_)
        · show (if ix c all 0 ≤ i ∧ i < ix c all 0 + 256 then _ else f' i) = f' i
          rw [if_neg (by omega)]
        · obtain ⟨r, r1, r2⟩ := hT all hall hab st h3
          refine ⟨r, RV_congr (fun v' => ?_) r1, ?_⟩
          · rw [← cnd_F (c := c)]
            exact cnd_pr fun d' x' _ _ _ _ => ⟨False.elim, fun y => absurd y (Nat.not_lt_zero _)⟩
          · show (if ix c all 0 ≤ ix c all st ∧ ix c all st < ix c all 0 + 256 then f' (ix (c + 1) all 0 + (ix c all st - ix c all 0)) else f' (ix c all st)) = cv r
            rw [if_pos (by unfold ix; omega), show ix (c + 1) all 0 + (ix c all st - ix c all 0) = ix (c + 1) all st by unfold ix; omega, f1 _ (by unfold ix; omega)]
            exact r2
  exact outer (h.2.2 + 1) 0 (by omega) f _ (fun _ _ => rfl) (fun b hb => absurd hb (Nat.not_lt_zero _))
end Tg2
