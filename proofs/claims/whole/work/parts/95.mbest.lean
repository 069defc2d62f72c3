/-! The reference: TOGETHER, PART. -/
section Rc
variable {P : gc_Pr} {d : Nat} {s : gc_St} {Q : gc_TQ} {W : ld_W} {lv o p st b kc : Nat} {h : Nat × Nat × Nat}
theorem sp_worthAll (hP : gc_Cl P) (hm : gc_Mo P) (hl : rf_law W lv s) {S : Nat} (hS : S < 64) (hQ : Q (some (.int (nI (wts W S (ld_c W) 0)))) s) : gc_T P d 0 0 277 0 [.ref 67, .int (nI S), gc_u, gc_u] [] s Q := by
  have hok := hl.1.2.2
  have hc6 := hok.1.2.2.2.1
  have hlv := hl.1.1
  refine b_X11_worthAll_0 hP hm ?_
  have key : ∀ m c a, c + m = ld_c W → a + wts W S m c = wts W S (ld_c W) 0 → gc_T P d 0 0 277 4 [.ref 67, .int (nI S), .int (nI a), .int (nI c)] [] s Q := by
    intro m
    induction m with
    | zero =>
      intro c a hc ha
      refine b_X11_worthAll_4 hP hm ?_
      rw [hl.1.2.1, nI_clamp (by omega), hl.2.1.2.2.2.1]
      refine ⟨vp_in_nI hlv (by decide), pk_le (ld_c W) c (fun _ => ?_) (fun z => by omega)⟩
      rw [show a = wts W S (ld_c W) 0 from ha]
      exact hQ
    | succ m ih =>
      intro c a hc ha
      have hsum : a + ((if S / 2 ^ c % 2 = 1 then ld_wo W c else 0) + wts W S m (c + 1)) = wts W S (ld_c W) 0 := ha
      refine b_X11_worthAll_4 hP hm ?_
      rw [hl.1.2.1, st_lit 6, pk_mul, nI_add, nI_clamp (by omega), nI_clamp (by omega), hl.2.1.2.2.2.1, (hl.2.2.2.2.2.1 c (by omega)).1, nI_add, st_bit1 (by omega) (by omega)]
      refine ⟨vp_in_nI hlv (by decide), pk_le (ld_c W) c (fun z => by omega) (fun _ => ⟨fun z => b_X11_worthAll_43 hP hm ?_, fun z => ⟨vp_in_nI (by omega) (by decide), b_X11_worthAll_43 hP hm ?_⟩⟩)⟩
      · rw [if_neg z, Nat.zero_add] at hsum
        rw [nI_1]
        exact ih (c + 1) a (by omega) hsum
      · rw [if_pos z] at hsum
        rw [nI_1]
        exact ih (c + 1) (a + ld_wo W c) (by omega) (by omega)
  exact key (ld_c W) 0 0 (by omega) (Nat.zero_add _)
/-- sets below the n-th -/
def CB (W : ld_W) (h : Nat × Nat × Nat) (n : Nat) (v : Nat × Nat) : Prop := v.2 < n ∧ TV W h.2.1 (ld_c W) 0 h.1 h.2.2 v
def bs_v (r : Option (Nat × Nat)) : Int32 := match r with
  | none => -1
  | some v => nI v.2
/-- what stands behind bestSet -/
def bsT (W : ld_W) (lv : Nat) (h : Nat × Nat × Nat) (t : gc_St) : Prop := rw_T W lv h.2.1 t ∧ cD W h.2.1 h (2048 * 2 ^ ld_c W) t
theorem sp_bestSet (hP : gc_Cl P) (hm : gc_Mo P) (hd : 5 ≤ d) (hq : rq W lv h s)
    (hQ : ∀ t, rq W lv h t → fr RA RB s t → bsT W lv h t → Q (some (.int (bs_v (tgr W h)))) t) : gc_T P d 0 0 278 0 [.ref 67, gc_u, gc_u] [] s Q := by
  obtain ⟨b1, b2, hok⟩ := rq_b hq
  have hc6 := hok.1.2.2.2.1
  have hb3 := hok.1.2.2.1
  have hN256 := ld_N_le hok
  have h64 := ld_64 hok
  have h8 := ld_8 hok
  have hh := hq.2.2.2
  refine b_X11_bestSet_0 hP hm ⟨by omega, ?_⟩
  rw [hq.2.2.1.2.1]
  refine sp_fillsH hP hm (by omega) hq b1 fun t t1 t2 t3 => ⟨by omega, sp_fillAll hP hm (h := h) (by omega) t1 t2.2.2.1.1 hh.1 fun u u1 u2 => ?_⟩
  have hTu := rw_110 t1 u1
  have gu : fr RA RB s u := fr_trans t3 (fr_up u1 (fun _ _ z => absurd z (by unfold A0; decide)) (fun _ z => RB_iff.mpr (Or.inr (Bm_iff.mp z))))
  have hqu := rq_of b1 hq hTu gu
  have hlv := hTu.1.1.1
  have shc : (1 : Int32) <<< (nI (ld_c W) &&& 31) = nI (2 ^ ld_c W) := by
    rw [show (1 : Int32) = nI 1 from rfl, st_shl (by omega) (by omega), Nat.one_mul]
  have stin : st_in h.1 h.1 = true := st_in_iff.mpr ⟨Nat.le_refl _, Nat.le_refl _, Nat.le_refl _, Nat.le_refl _⟩
  have loop : ∀ m S, S + m = 2 ^ ld_c W → ∀ r, RV (CB W h S) r → gc_T P d 0 0 278 16 [.ref 67, .int (bs_v r), .int (nI S)] [] u Q := by
    intro m
    induction m with
    | zero =>
      intro S hS r hr
      refine b_X11_bestSet_16 hP hm ?_
      rw [hTu.1.1.2.1, nI_clamp (by omega), hTu.1.2.1.2.2.2.1, shc]
      refine ⟨vp_in_nI hlv (by decide), pk_le (2 ^ ld_c W) S (fun _ => ?_) (fun z => by omega)⟩
      have hrr : RV (TV W h.2.1 (ld_c W) 0 h.1 h.2.2) r := RV_congr (fun v => ⟨fun z => z.2, fun z => ⟨by have := (TV_S _ _ _ _ _ z).2; rw [Nat.zero_add] at this; omega, z⟩⟩) hr
      have := hQ u hqu gu ⟨hTu, u2⟩
      rw [tg_r hrr] at this
      exact this
    | succ m ih =>
      intro S hS r hr
      have hilt : ac S h.1 h.2.2 < 131072 := by
        unfold ac
        omega
      have hcell := u2 S h.1 h.2.2 (by omega) hh.1 stin hh.2.2 (by unfold ac; omega)
      have next : ∀ r', RV (CB W h (S + 1)) r' → gc_T P d 0 0 278 77 [.ref 67, .int (bs_v r'), .int (nI S)] [] u Q := by
        intro r' hr'
        refine b_X11_bestSet_77 hP hm ?_
        rw [nI_1]
        exact ih (S + 1) (by omega) r' hr'
      have cbS : ∀ v, CB W h (S + 1) v ↔ CB W h S v ∨ (v.2 = S ∧ TV W h.2.1 (ld_c W) 0 h.1 h.2.2 v) := by
        intro v
        unfold CB
        constructor
        · rintro ⟨z1, z2⟩
          by_cases e : v.2 = S
          · exact Or.inr ⟨e, z2⟩
          · exact Or.inl ⟨by omega, z2⟩
        · rintro (⟨z1, z2⟩ | ⟨z1, z2⟩)
          · exact ⟨by omega, z2⟩
          · exact ⟨by omega, z2⟩
      refine b_X11_bestSet_16 hP hm ?_
      rw [hTu.1.1.2.1, nI_clamp (by omega), hTu.1.2.1.2.2.2.1, shc, hqu.2.2.1.1, hqu.2.2.1.2.2, st_lit 2048, st_lit 8, pk_mul, pk_mul, nI_add, nI_add, show 2048 * S + 8 * h.1 + h.2.2 = ac S h.1 h.2.2 from rfl, nI_clamp (by omega)]
      refine ⟨vp_in_nI hlv (by decide), pk_le (2 ^ ld_c W) S (fun z => by omega) (fun _ => ⟨vp_in_nI hilt (by decide), fun z => next r (RV_congr (fun v => ?_) hr), fun z => ?_⟩)⟩
      · rw [cbS v]
        refine ⟨Or.inl, fun y => y.elim id (fun y => ?_)⟩
        exact absurd z (hcell.mpr ⟨v.1, by rw [← y.1]; exact y.2⟩)
      · obtain ⟨w, hw⟩ := hcell.mp z
        have hww : w = wts W S (ld_c W) 0 := TV_w _ _ _ _ _ hw
        have hmine : ∀ v, (v.2 = S ∧ TV W h.2.1 (ld_c W) 0 h.1 h.2.2 v) ↔ v = (w, S) := by
          intro v
          constructor
          · rintro ⟨z1, z2⟩
            have := TV_w _ _ _ _ _ z2
            rw [z1] at this
            exact Prod.ext (this.trans hww.symm) z1
          · rintro rfl
            exact ⟨rfl, hw⟩
        have cbS2 : ∀ v, CB W h (S + 1) v ↔ CB W h S v ∨ v = (w, S) := fun v => by rw [cbS v, hmine v]
        have take : RV (CB W h (S + 1)) (some (w, S)) → ∀ l1, gc_T P d 0 0 278 75 [.ref 67, .int l1, .int (nI S)] [] u Q := fun hr' l1 => b_X11_bestSet_75 hP hm (next (some (w, S)) hr')
        rcases hr with ⟨e, hr⟩ | ⟨v, e, hr1, hr2⟩
        · rw [e]
          refine ⟨fun _ => take (Or.inr ⟨_, rfl, (cbS2 _).mpr (Or.inr rfl), fun v' hv' => ?_⟩) _, fun y => absurd rfl y⟩
          rcases (cbS2 v').mp hv' with y | y
          · exact absurd y (hr v')
          · rw [y]
            exact ge2_refl _
        · rw [e]
          have hv64 : v.2 < 64 := by
            have := hr1.1
            omega
          have hvw : v.1 = wts W v.2 (ld_c W) 0 := TV_w _ _ _ _ _ hr1.2
          have l1 := wts_le hok S (ld_c W) 0 (by omega)
          have l2 := wts_le hok v.2 (ld_c W) 0 (by omega)
          refine ⟨fun y => absurd y (m1_ne (show v.2 < 2 ^ 31 by omega)), fun _ => ⟨by omega, sp_worthAll hP hm hTu.1 (by omega) ⟨by omega, sp_worthAll hP hm hTu.1 hv64 (pk_le (wts W S (ld_c W) 0) (wts W v.2 (ld_c W) 0) (fun y => ?_) (fun y => ?_))⟩⟩⟩
          · refine next (some v) (Or.inr ⟨v, rfl, (cbS2 _).mpr (Or.inl hr1), fun v' hv' => ?_⟩)
            rcases (cbS2 v').mp hv' with z2 | z2
            · exact hr2 v' z2
            · rw [z2]
              unfold ge2
              have := hr1.1
              show w < v.1 ∨ (w = v.1 ∧ v.2 ≤ S)
              omega
          · refine take (Or.inr ⟨_, rfl, (cbS2 _).mpr (Or.inr rfl), fun v' hv' => ?_⟩) _
            rcases (cbS2 v').mp hv' with z2 | z2
            · refine ge2_trans ?_ (hr2 v' z2)
              unfold ge2
              show v.1 < w ∨ (v.1 = w ∧ S ≤ v.2)
              omega
            · rw [z2]
              exact ge2_refl _
  exact loop (2 ^ ld_c W) 0 (by omega) none (Or.inl ⟨rfl, fun v z => absurd z.1 (Nat.not_lt_zero _)⟩)
theorem sp_mtogether (hP : gc_Cl P) (hm : gc_Mo P) (hd : 6 ≤ d) (hq : rq W lv h s) {wx : Int32} (h1 : ∀ w t, w < 2 → wx = nI w → rq W lv h t → fr RA RB s t → Q (some (.int (an_to W h w))) t) (h2 : (∀ k, k < 2 → wx ≠ nI k) → Q (some (.int (-1))) s) : gc_T P d 0 0 279 0 [.ref 67, .int wx, gc_u] [] s Q := by
  obtain ⟨b1, b2, hok⟩ := rq_b hq
  refine b_X11_together_0 hP hm ⟨by omega, sp_inN hP hm (n := 2) (by decide) (by decide) (fun w hw ew => ⟨fun _ => ⟨by omega, ?_⟩, fun y => absurd y (by decide)⟩) (fun ew => ⟨fun y => absurd rfl y, fun _ => h2 ew⟩)⟩
  refine sp_bestSet hP hm (by omega) hq fun t t1 t2 t3 => ?_
  have hfin := h1 w t hw ew t1 t2
  unfold an_to at hfin
  obtain ⟨r, hr⟩ := opt_ex (TV W h.2.1 (ld_c W) 0 h.1 h.2.2) (fun v hv => (TV_le hok (by omega) hv).1)
  rw [tg_r hr] at hfin ⊢
  cases r with
  | none => exact ⟨fun y => absurd rfl y, fun _ => hfin⟩
  | some v =>
    have hTV : TV W h.2.1 (ld_c W) 0 h.1 h.2.2 v := by
      rcases hr with ⟨q1, _⟩ | ⟨u', q3, q4, _⟩
      · simp at q1
      · simp only [Option.some.injEq] at q3
        rw [q3]
        exact q4
    have hbd := TV_le hok (by omega) hTV
    have hw2 := TV_w _ _ _ _ _ hTV
    have hfin : Q (some (.int (if w = 0 then nI v.1 else nI v.2))) t := hfin
    refine ⟨fun _ => ⟨fun e => ?_, fun e => ⟨by omega, sp_worthAll hP hm t3.1.1 hbd.2 ?_⟩⟩, fun y => absurd y (m1_ne (show v.2 < 2 ^ 31 by omega))⟩
    · rw [if_neg (fun e2 => e (by rw [ew, e2]; rfl))] at hfin
      exact hfin
    · rw [ew, show (0 : Int32) = nI 0 from rfl, nI_eq (by omega) (by omega)] at e
      rw [if_pos e, hw2] at hfin
      exact hfin
theorem sp_part52 (hP : gc_Cl P) (hm : gc_Mo P) (hd : 3 ≤ d) (hT : bsT W lv h s) {j w : Nat} (hw : w < 2) {K : Nat → Nat} (hj : j < ld_c W)
    (hQ : Q (some (.int (if w = 0 then nI (K j / 8) else nI (K j % 8)))) s) : ∀ m c st b S (l6 : Value), c + m = ld_c W → S < 2 ^ ld_c W → S % 2 ^ c = 0 → c ≤ j → S / 2 ^ j % 2 = 1 → st < ld_N W → st_in st h.1 = true → b < 2 ^ ld_b W → PA W h.2.1 K m c st b S → gc_T P d 0 0 280 52 [.ref 67, .int (nI j), .int (nI w), .int (nI S), .int (nI st), .int (nI b), l6] [] s Q := by
  have hok := hT.1.1.1.2.2
  have hc6 := hok.1.2.2.2.1
  have hb3 := hok.1.2.2.1
  have hN256 := ld_N_le hok
  have h64 := ld_64 hok
  intro m
  induction m with
  | zero =>
    intro c st b S l6 hc
    omega
  | succ m ih =>
    intro c st b S l6 hc hS hmod hcj hbj hst hsin hb hPA
    by_cases e1 : S / 2 ^ c % 2 = 1
    · obtain ⟨p1, p2⟩ := (PA_1 e1).mp hPA
      obtain ⟨hle, hm2⟩ := bit_split hmod e1
      have hpos : 0 < 2 ^ c := Nat.pow_pos (by decide)
      have hcT : cT W h.2.1 h (S - 2 ^ c) s := fun st' b' k1 k2 k3 => hT.2 (S - 2 ^ c) st' b' (by omega) k1 k2 k3 (by have := p8 hb3 k3; unfold ac; omega)
      refine b_X11_part_52 hP hm ⟨by omega, sp_firstPart hP hm (by omega) hT.1 hS (by omega) hmod e1 hcT hst hsin hb (fun k hk => ⟨by omega, sp_mlowest hP hm (by omega) (by omega) hmod e1 ?_⟩) (fun hno => absurd p1.1 (hno _))⟩
      rw [fpL_uniq hk p1]
      obtain ⟨f1, f2, f3, f4, f5⟩ := p1.1
      have hk8 := st_in_le (show st < 256 by omega) f2 f1
      have hb8 := p8 hb3 hb
      obtain ⟨d1, d2⟩ := sb_le b hb8 (K c % 8) (by omega) f3
      have ediv : nI (K c) / 8 = nI (K c / 8) := by
        rw [show (8 : Int32) = nI 8 from rfl, pk_div (by omega) (by decide) (by decide)]
      have erem : nI (K c) - nI (K c / 8) * 8 = nI (K c % 8) := by
        rw [← ediv, show (8 : Int32) = nI 8 from rfl, pk_rem (by omega) (by decide) (by decide)]
      show (¬ nI c = nI j → _) ∧ (nI c = nI j → _)
      rw [nI_eq (by omega) (by omega)]
      refine ⟨fun e => ⟨by omega, sp_mlowest hP hm (by omega) (by omega) hmod e1 ?_⟩, fun e => ?_⟩
      · show gc_T P d 0 0 280 52 [.ref 67, .int (nI j), .int (nI w), .int (nI S &&& (((1 : Int32) <<< (nI c &&& 31)) ^^^ (-1))), .int (nI st - nI (K c) / 8), .int (nI b - (nI (K c) - nI (K c) / 8 * 8)), .int (nI (K c))] [] s Q
        rw [lw_off S (by omega) c (by omega) e1, ediv, erem, pk_sub hk8, pk_sub d1]
        exact ih (c + 1) (st - K c / 8) (b - K c % 8) (S - 2 ^ c) _ (by omega) (by omega) hm2 (by omega) (by rw [bit_less hmod e1 (by omega)]; exact hbj) (by omega) (st_in_tr (st_sub_in st (by omega) _ f2 f1) hsin) (by omega) p2
      · rw [← e] at hQ
        rw [ediv, erem]
        refine ⟨fun e2 => ?_, fun e2 => ?_⟩
        · rw [if_neg (fun e3 => e2 (by rw [e3]; rfl))] at hQ
          exact hQ
        · rw [show (0 : Int32) = nI 0 from rfl, nI_eq (by omega) (by omega)] at e2
          rw [if_pos e2] at hQ
          exact hQ
    · exact ih (c + 1) st b S l6 (by omega) hS (mod_up hmod e1) (by have : j ≠ c := fun z => e1 (z ▸ hbj); omega) hbj hst hsin hb ((PA_0 e1).mp hPA)
theorem PA_ex : ∀ m c s b S, c + m = ld_c W → S % 2 ^ c = 0 → cA W o S s b → ∃ K, PA W o K m c s b S
  | 0, _, _, _, _, _, _, _ => ⟨fun _ => 0, trivial⟩
  | m + 1, c, s, b, S, hc, hmod, hA => by
    by_cases e1 : S / 2 ^ c % 2 = 1
    · obtain ⟨k, hk1, hk2⟩ := pk_least _ ((cA_low (by omega) hmod e1).mp hA)
      obtain ⟨K, hK⟩ := PA_ex m (c + 1) (s - k / 8) (b - k % 8) (S - 2 ^ c) (by omega) (bit_split hmod e1).2 hk1.2.2.2.2
      refine ⟨fun j => if j = c then k else K j, (PA_1 e1).mpr ?_⟩
      show fpL W o c S s b (if c = c then k else K c) ∧ PA W o _ m (c + 1) (s - (if c = c then k else K c) / 8) (b - (if c = c then k else K c) % 8) (S - 2 ^ c)
      rw [if_pos rfl]
      exact ⟨⟨hk1, hk2⟩, PA_congr m (c + 1) _ _ _ (fun j h1 h2 => by rw [if_neg (by omega)]) hK⟩
    · obtain ⟨K, hK⟩ := PA_ex m (c + 1) s b S (by omega) (mod_up hmod e1) hA
      exact ⟨K, (PA_0 e1).mpr hK⟩
theorem sp_mpart (hP : gc_Cl P) (hm : gc_Mo P) (hd : 6 ≤ d) (hq : rq W lv h s) {c wx : Int32} (h1 : ∀ k w t, k < ld_c W → c = nI k → w < 2 → wx = nI w → rq W lv h t → fr RA RB s t → Q (some (.int (an_pa W h k w))) t) (h2 : ((∀ k, k < ld_c W → c ≠ nI k) ∨ (∀ k, k < 2 → wx ≠ nI k)) → Q (some (.int (-1))) s) : gc_T P d 0 0 280 0 [.ref 67, .int c, .int wx, gc_u, gc_u, gc_u, gc_u] [] s Q := by
  obtain ⟨b1, b2, hok⟩ := rq_b hq
  have hc6 := hok.1.2.2.2.1
  refine b_X11_part_0 hP hm ⟨by omega, sp_isClaim hP hm (by omega) hq.1 (fun k hk e => ⟨fun w => absurd w (by decide), fun _ => ⟨by omega, ?_⟩⟩) (fun e => ⟨fun _ => h2 (Or.inl e), fun w => absurd rfl w⟩)⟩
  refine sp_inN hP hm (n := 2) (by decide) (by decide) (fun w hw ew => ⟨fun _ => ⟨by omega, ?_⟩, fun y => absurd y (by decide)⟩) (fun ew => ⟨fun y => absurd rfl y, fun _ => h2 (Or.inr ew)⟩)
  refine sp_bestSet hP hm (by omega) hq fun t t1 t2 t3 => ?_
  have hfin := h1 k w t hk e hw ew t1 t2
  obtain ⟨r, hr⟩ := opt_ex (TV W h.2.1 (ld_c W) 0 h.1 h.2.2) (fun v hv => (TV_le hok (by omega) hv).1)
  rw [tg_r hr]
  cases r with
  | none =>
    rw [← tg_pa (K := fun _ => 0) ⟨hr, fun _ z => by simp at z⟩ hk w] at hfin
    exact ⟨fun _ => hfin, fun y => absurd rfl y⟩
  | some v =>
    have hTV : TV W h.2.1 (ld_c W) 0 h.1 h.2.2 v := by
      rcases hr with ⟨q1, _⟩ | ⟨u', q3, q4, _⟩
      · simp at q1
      · simp only [Option.some.injEq] at q3
        rw [q3]
        exact q4
    have hbd := TV_le hok (by omega) hTV
    have hvS := (TV_S _ _ _ _ _ hTV).2
    rw [Nat.zero_add] at hvS
    obtain ⟨K, hK⟩ := PA_ex (W := W) (o := h.2.1) (ld_c W) 0 h.1 h.2.2 v.2 (by omega) (Nat.mod_one _) ⟨v.1, hTV⟩
    rw [← tg_pa (K := K) ⟨hr, fun u z => by rw [Option.some.injEq] at z; rw [← z]; exact hK⟩ hk w] at hfin
    have hfin : Q (some (.int (if v.2 / 2 ^ k % 2 = 1 then (if w = 0 then nI (K k / 8) else nI (K k % 8)) else -2))) t := hfin
    refine ⟨fun y => absurd y (m1_ne (show v.2 < 2 ^ 31 by omega)), fun _ => ?_⟩
    rw [e, ew]
    show (¬ ((nI v.2 >>> (nI k &&& 31)) &&& 1) = 0 → _) ∧ (((nI v.2 >>> (nI k &&& 31)) &&& 1) = 0 → _)
    rw [st_bitI (by omega) (by omega), t1.2.2.1.1, t1.2.2.1.2.2]
    refine ⟨fun z => ?_, fun z => ?_⟩
    · have hbit : v.2 / 2 ^ k % 2 = 1 := Decidable.byContradiction z
      rw [if_pos hbit] at hfin
      exact sp_part52 hP hm (by omega) t3 hw hk hfin (ld_c W) 0 h.1 h.2.2 v.2 _ (by omega) hvS (Nat.mod_one _) (Nat.zero_le _) hbit hq.2.2.2.1 (st_in_iff.mpr ⟨Nat.le_refl _, Nat.le_refl _, Nat.le_refl _, Nat.le_refl _⟩) hq.2.2.2.2.2 hK
    · rw [if_neg z] at hfin
      exact hfin
end Rc
