/-! NEEDED, of both. -/
noncomputable def an_nd (W : ld_W) (h : Nat × Nat × Nat) (p w : Nat) : Int32 := if dp_D W h.2.1 p h.1 h.2.2 = 0 then -2 else (match nd W h p (h.2.1 + 1) with
  | none => -1
  | some y => (match w with
    | 0 => nI (y / 64)
    | 1 => nI (y / 8 % 8)
    | _ => nI (y % 8)))
noncomputable def kNd (W : ld_W) (h : Nat × Nat × Nat) (p : Nat) (s : gc_St) : Nat := kP W h.2.1 p h.2.2 s + (if dp_D W h.2.1 p h.1 h.2.2 = 0 then 0 else kF (fun i => nd_S W h p i && ((gc_Y s i).isNone && !pS W h.2.1 p h.2.2 i)) 0 1536)
theorem bits_ok : ∀ x, x < 8 → ((nI x &&& 1) + ((nI x >>> ((1 : Int32) &&& 31)) &&& 1)) + ((nI x >>> ((2 : Int32) &&& 31)) &&& 1) = nI (sb_n x) := by decide +kernel
section Nb
variable {P : gc_Pr} {d : Nat} {s : gc_St} {Q : gc_TQ} {W : ld_W} {L v lv o p st b kc : Nat} {h : Nat × Nat × Nat}
theorem nd_full (hok : ld_ok W) (b1 : h.2.1 < 8) (b2 : h.2.2 < 8) (hD : dp_D W h.2.1 p h.1 h.2.2 ≠ 0) : ∃ y, nd W h p (h.2.1 + 1) = some y ∧ y < 512 := by
  obtain ⟨z, z1, _⟩ := (nd_p (W := W) (h := h) (p := p) (h.2.1 + 1)).2 h.2.1 h.2.2 (by omega) (sb_self _ b1) (Nat.le_refl _) (sb_self _ b2) hD
  exact ⟨z, z1, nd_lt (by omega) b2 z1⟩
theorem sp_dwh2 (hP : gc_Cl P) (hm : gc_Mo P) (hd : 7 ≤ d) (hq : cq W L v h s) (hp : p < ld_p W) (hkc : kc = kP W h.2.1 p h.2.2 s)
    (hQ : ∀ t, cq W L v h t → gc_I t 24 (cl_num h.2.1 p h.2.2) = nI v → cx A0 B0 kc s t → (∀ i, i < 1536 → (gc_Y t i).isNone = ((gc_Y s i).isNone && !pS W h.2.1 p h.2.2 i)) → Q (some (.int (an_d W h p))) t) : gc_T P d kc (256 * kc) 158 0 [.ref 0, .int (nI p), gc_u] [] s Q := by
  obtain ⟨b1, b2, hok⟩ := cq_b hq
  refine b_X10_depthWithHand_0 hP hm ⟨by omega, kc, 256 * kc, Nat.le_refl _, Nat.le_refl _, ?_⟩
  rw [hq.2.2.1.2.1, hq.2.2.1.2.2]
  refine sp_prep2 hP hm (by omega) hq b1 hp b2 hkc fun t t1 t2 t3 t4 => ⟨by omega, ?_⟩
  rw [t1.2.2.1.1, t1.2.2.1.2.1, t1.2.2.1.2.2]
  have hD := dp_D_max (o := h.2.1) hok hp hq.2.2.2.1 b2
  have := hQ t t1 t2 t3 t4
  unfold an_d at this
  refine sp_least hP hm (by omega) hok t1.1.2 b1 hp b2 hq.2.2.2.1 t2 ⟨fun y => ⟨Nat.sub_self _, ?_⟩, fun y => ⟨Nat.sub_self _, ?_⟩⟩
  · rw [if_neg (fun e => y (by rw [e]; rfl))] at this
    exact this
  · rw [show (0 : Int32) = nI 0 from rfl, nI_eq (by omega) (by omega)] at y
    rw [if_pos y] at this
    exact this
theorem sp_neededC (hP : gc_Cl P) (hm : gc_Mo P) (hd : 10 ≤ d) (hq : cq W L v h s) {k w : Nat} (hk : k < ld_c W) (hw : w < 3) (hkc : kc = kNd W h (ld_ro W k) s) (hQ : ∀ t, cq W L v h t → cx A0 B0 kc s t → Q (some (.int (an_nd W h (ld_ro W k) w))) t) : gc_T P d kc (256 * kc) 146 0 [.ref 0, .int (nI k), .int (nI w), gc_u, gc_u] [] s Q := by
  obtain ⟨b1, b2, hok⟩ := cq_b hq
  have hr := ld_root hok hk
  have hc6 := hok.1.2.2.2.1
  unfold kNd at hkc
  generalize hk1 : kP W h.2.1 (ld_ro W k) h.2.2 s = k1 at hkc
  refine b_X10_needed_0 hP hm ⟨by omega, sp_root hP hm hq.1.1 (fun k' hk' e => ⟨fun y => absurd y (m1_ne (by have := (ld_root hok hk').2; omega)), fun _ => ⟨fun y => absurd y (nI_pos (by omega)), fun _ => pk_le w 2 (fun _ => ⟨by omega, k1, 256 * k1, by omega, by omega, ?_⟩) (fun z => by omega)⟩⟩) (fun e => absurd rfl (e k hk))⟩
  rw [nI_eq (by omega) (by omega)] at e
  subst e
  unfold an_nd at hQ
  refine sp_dwh2 hP hm (by omega) hq hr.1 hk1.symm fun t t1 t2 t3 t4 => ?_
  unfold an_d
  by_cases hD : dp_D W h.2.1 (ld_ro W k) h.1 h.2.2 = 0
  · rw [if_pos hD] at hQ hkc ⊢
    have hkk : kc = k1 := by omega
    rw [hkk] at hQ ⊢
    exact ⟨fun y => absurd rfl y, fun _ => ⟨Nat.sub_self _, hQ t t1 t3⟩⟩
  · rw [if_neg hD] at hQ hkc ⊢
    have hDm := dp_D_max (o := h.2.1) hok hr.1 hq.2.2.2.1 b2
    obtain ⟨y, hy, hy5⟩ := nd_full (p := ld_ro W k) hok b1 b2 hD
    rw [hy] at hQ
    refine ⟨fun _ => ⟨by omega, kc - k1, 256 * (kc - k1), by omega, by omega, ?_⟩, fun y => absurd y (m2_ne (by omega))⟩
    refine sp_leastNeeds hP hm (by omega) t1 hr.1 ?_ fun u u1 u2 => ?_
    · rw [show kc - k1 = kF (fun i => nd_S W h (ld_ro W k) i && ((gc_Y s i).isNone && !pS W h.2.1 (ld_ro W k) h.2.2 i)) 0 1536 by omega]
      refine kF_congr _ _ fun i _ hi => ?_
      rw [t4 i (by omega)]
    · rw [hy]
      have hcx := cx_trans (A := A0) (B := B0) rfl t3 u2
      rw [show k1 + (kc - k1) = kc by omega] at hcx
      have hQu := hQ u u1 hcx
      show (¬ nI w = 0 → ((¬ nI w = 1 → ((kc - k1) - (kc - k1) = 0 ∧ Q (some (.int (nI y &&& 7))) u)) ∧ (nI w = 1 → ((kc - k1) - (kc - k1) = 0 ∧ Q (some (.int ((nI y >>> (3 &&& 31)) &&& 7))) u)))) ∧ (nI w = 0 → ((kc - k1) - (kc - k1) = 0 ∧ Q (some (.int (nI y >>> (6 &&& 31)))) u))
      rw [pk_andN (by omega) 3 (by decide), show (3 : Int32) = nI 3 from rfl, show (6 : Int32) = nI 6 from rfl, st_shr (by omega) (by decide), st_shr (by omega) (by decide), pk_andN (show y / 2 ^ 3 < 2 ^ 32 by omega) 3 (by decide)]
      match w, hw, hQu with
      | 0, _, hQu => exact ⟨fun z => absurd rfl z, fun _ => ⟨Nat.sub_self _, hQu⟩⟩
      | 1, _, hQu => exact ⟨fun _ => ⟨fun z => absurd rfl z, fun _ => ⟨Nat.sub_self _, hQu⟩⟩, fun z => absurd z (by decide)⟩
      | 2, _, hQu => exact ⟨fun _ => ⟨fun _ => ⟨Nat.sub_self _, hQu⟩, fun z => absurd z (by decide)⟩, fun z => absurd z (by decide)⟩
theorem sp_neededN (hP : gc_Cl P) (hm : gc_Mo P) (hd : 9 ≤ d) (hq : cq W L v h s) {c w : Int32} (hc : (∀ k, k < ld_c W → c ≠ nI k) ∨ (∀ k, k < 3 → w ≠ nI k)) (hQ : Q (some (.int (-1))) s) : gc_T P d 0 0 146 0 [.ref 0, .int c, .int w, gc_u, gc_u] [] s Q := by
  refine b_X10_needed_0 hP hm ⟨by omega, sp_root hP hm hq.1.1 (fun k' hk' e => ⟨fun y => ⟨rfl, hQ⟩, fun _ => ⟨fun _ => ⟨rfl, hQ⟩, fun y => ⟨fun y2 => ?_, fun _ => ⟨rfl, hQ⟩⟩⟩⟩) (fun _ => ⟨fun _ => ⟨rfl, hQ⟩, fun y => absurd rfl y⟩)⟩
  rcases hc with z | z
  · exact absurd e (z k' hk')
  · obtain ⟨j, hj, rfl⟩ := nI_of y
    rw [show (2 : Int32) = nI 2 from rfl, nI_leI hj (by decide)] at y2
    exact absurd rfl (z j (by omega))
theorem sp_bits (hP : gc_Cl P) (hm : gc_Mo P) {x : Nat} (hx : x < 8) (hQ : Q (some (.int (nI (sb_n x)))) s) : gc_T P d 0 0 281 0 [.int (nI x)] [] s Q := by
  refine b_X11_bits_0 hP hm ?_
  rw [bits_ok x hx]
  exact hQ
def nd_ok (W : ld_W) (h : Nat × Nat × Nat) (p o b : Nat) : Prop := sb_in o h.2.1 = true ∧ sb_in b h.2.2 = true ∧ dp_D W o p h.1 b ≠ 0
def rn_I (W : ld_W) (h : Nat × Nat × Nat) (p : Nat) (best o b : Nat) (s : gc_St) : Prop :=
  (best = 9 ∧ ∀ o' b', b' < 8 → (o' < o ∨ (o' = o ∧ b' < b)) → ¬ nd_ok W h p o' b') ∨
  ∃ o1 c1, o1 < 8 ∧ c1 < 8 ∧ (o1 < o ∨ (o1 = o ∧ c1 < b)) ∧ nd_ok W h p o1 c1 ∧ best = sb_n o1 + sb_n c1 ∧ gc_F s 67 75 = nI o1 ∧ gc_F s 67 76 = nI c1 ∧ ∀ o' b', b' < 8 → (o' < o ∨ (o' = o ∧ b' < b)) → nd_ok W h p o' b' → nd_k o1 c1 ≤ nd_k o' b'
theorem rn_le {best o b : Nat} (hr : rn_I W h p best o b s) : best ≤ 9 := by
  rcases hr with hr | ⟨o1, c1, h1, h2, _, _, h5, _⟩
  · omega
  · have := sb_n_8 o1 h1
    have := sb_n_8 c1 h2
    omega
theorem rn_fr {best o b : Nat} {t : gc_St} (hr : rn_I W h p best o b s) (e1 : gc_F t 67 75 = gc_F s 67 75) (e2 : gc_F t 67 76 = gc_F s 67 76) : rn_I W h p best o b t := by
  rcases hr with hr | ⟨o1, c1, h1, h2, h3, h4, h5, h6, h7, h8⟩
  · exact Or.inl hr
  · exact Or.inr ⟨o1, c1, h1, h2, h3, h4, h5, e1.trans h6, e2.trans h7, h8⟩
theorem rn_skip {best o b : Nat} (ho : o < 8) (hb : b < 8) (hr : rn_I W h p best o b s) (hno : nd_ok W h p o b → sb_n o + sb_n b ≥ best) : rn_I W h p best o (b + 1) s := by
  have n1 := sb_n_8 o ho
  have n2 := sb_n_8 b hb
  rcases hr with ⟨h1, h2⟩ | ⟨o1, c1, h1, h2, h3, h4, h5, h6, h7, h8⟩
  · refine Or.inl ⟨h1, fun o' b' z1 z2 z3 => ?_⟩
    by_cases e : o' = o ∧ b' = b
    · rw [e.1, e.2] at z3
      have := hno z3
      omega
    · exact h2 o' b' z1 (by omega) z3
  · refine Or.inr ⟨o1, c1, h1, h2, by omega, h4, h5, h6, h7, fun o' b' z1 z2 z3 => ?_⟩
    by_cases e : o' = o ∧ b' = b
    · rw [e.1, e.2] at z3 ⊢
      have := hno z3
      unfold nd_k
      omega
    · exact h8 o' b' z1 (by omega) z3
theorem rn_take {best o b : Nat} {t : gc_St} (ho : o < 8) (hb : b < 8) (hr : rn_I W h p best o b s) (hok : nd_ok W h p o b) (hlt : sb_n o + sb_n b < best) (e1 : gc_F t 67 75 = nI o) (e2 : gc_F t 67 76 = nI b) : rn_I W h p (sb_n o + sb_n b) o (b + 1) t := by
  refine Or.inr ⟨o, b, ho, hb, by omega, hok, rfl, e1, e2, fun o' b' z1 z2 z3 => ?_⟩
  by_cases e : o' = o ∧ b' = b
  · rw [e.1, e.2]
    exact Nat.le_refl _
  · rcases hr with ⟨h1, h2⟩ | ⟨o1, c1, h1, h2, h3, h4, h5, h6, h7, h8⟩
    · exact absurd z3 (h2 o' b' z1 (by omega))
    · have := h8 o' b' z1 (by omega) z3
      unfold nd_k at this ⊢
      omega
theorem rn_row {best o : Nat} {n : Nat} (hn : ∀ b, n ≤ b → b < 8 → ¬ nd_ok W h p o b) (hr : rn_I W h p best o n s) : rn_I W h p best (o + 1) 0 s := by
  rcases hr with ⟨h1, h2⟩ | ⟨o1, c1, h1, h2, h3, h4, h5, h6, h7, h8⟩
  · refine Or.inl ⟨h1, fun o' b' z1 z2 z3 => ?_⟩
    by_cases e : o' = o ∧ n ≤ b'
    · rw [e.1] at z3
      exact hn b' e.2 z1 z3
    · exact h2 o' b' z1 (by omega) z3
  · refine Or.inr ⟨o1, c1, h1, h2, by omega, h4, h5, h6, h7, fun o' b' z1 z2 z3 => ?_⟩
    by_cases e : o' = o ∧ n ≤ b'
    · rw [e.1] at z3
      exact absurd z3 (hn b' e.2 z1)
    · exact h8 o' b' z1 (by omega) z3
theorem sp_neededOf (hP : gc_Cl P) (hm : gc_Mo P) (hd : 5 ≤ d) (hq : rq W lv h s) {k : Nat} (hk : k < ld_c W) (hQ : ∀ best t, rq W lv h t → fr RA RB s t → rn_I W h (ld_ro W k) best 8 0 t → Q (some (.int (nI best))) t) : gc_T P d 0 0 282 0 [.ref 67, .int (nI k), gc_u, gc_u, gc_u] [] s Q := by
  obtain ⟨b1, b2, hok⟩ := rq_b hq
  have hlv := hq.1.1.1
  have o3 := hok.1.2.1
  have b3 := hok.1.2.2.1
  have hO : 2 ^ ld_o W ≤ 8 := Nat.le_trans (Nat.pow_le_pow_right (by decide) o3) (by decide)
  have hB : 2 ^ ld_b W ≤ 8 := ld_B_le hok
  have hr := ld_root hok hk
  refine b_X11_neededOf_0 hP hm ?_
  have noO : ∀ o b, 2 ^ ld_o W ≤ o → o < 8 → ¬ nd_ok W h (ld_ro W k) o b := by
    intro o b h1 h2 h3
    have := (sb_le h.2.1 b1 o h2 h3.1).1
    have := hq.2.2.2.2.1
    omega
  have noB : ∀ o b, 2 ^ ld_b W ≤ b → b < 8 → ¬ nd_ok W h (ld_ro W k) o b := by
    intro o b h1 h2 h3
    have := (sb_le h.2.2 b2 b h2 h3.2.1).1
    have := hq.2.2.2.2.2
    omega
  have outer : ∀ n o, o + n = 2 ^ ld_o W → ∀ best (t : gc_St) (l4 : Value), rq W lv h t → fr RA RB s t → rn_I W h (ld_ro W k) best o 0 t → gc_T P d 0 0 282 5 [.ref 67, .int (nI k), .int (nI best), .int (nI o), l4] [] t Q := by
    intro n
    induction n with
    | zero =>
      intro o hon best t l4 t1 t2 t3
      refine b_X11_neededOf_5 hP hm ?_
      rw [t1.1.1.2.1, nI_clamp (by omega), t1.1.2.1.2.1, ld_Bsh o3]
      refine ⟨vp_in_nI hlv (by omega), pk_le (2 ^ ld_o W) o (fun _ => hQ best t t1 t2 ?_) (fun z => by omega)⟩
      have hup : ∀ m o', o' + m = 8 → 2 ^ ld_o W ≤ o' → rn_I W h (ld_ro W k) best o' 0 t → rn_I W h (ld_ro W k) best 8 0 t := by
        intro m
        induction m with
        | zero =>
          intro o' h1 h2 h3
          rw [show (8 : Nat) = o' by omega]
          exact h3
        | succ m ihm =>
          intro o' h1 h2 h3
          exact ihm (o' + 1) (by omega) (by omega) (rn_row (fun b _ hb8 => noO o' b h2 (by omega)) h3)
      exact hup (8 - o) o (by omega) (by omega) t3
    | succ n ih =>
      intro o hon best t l4 t1 t2 t3
      have ho8 : o < 8 := by omega
      refine b_X11_neededOf_5 hP hm ?_
      rw [t1.1.1.2.1, nI_clamp (by omega), t1.1.2.1.2.1, ld_Bsh o3, t1.2.2.1.2.1, st_subI o ho8 h.2.1 b1]
      refine ⟨vp_in_nI hlv (by omega), pk_le (2 ^ ld_o W) o (fun z => by omega) (fun _ => ⟨fun hin => ⟨by omega, ?_⟩, fun hin => b_X11_neededOf_129 hP hm ?_⟩)⟩
      · refine sp_fills hP hm (by omega) t1.1 ho8 t1.2.1 fun u u1 u2 u3 u4 => ?_
        have uT : rw_T W lv o u := ⟨u1, u2, u3⟩
        have g1 := fr_53 u4
        have uq := rq_of ho8 t1 uT g1
        have inner : ∀ n2 b, b + n2 = 2 ^ ld_b W → ∀ best (x : gc_St), rw_T W lv o x → rq W lv h x → fr RA RB s x → rn_I W h (ld_ro W k) best o b x → gc_T P d 0 0 282 42 [.ref 67, .int (nI k), .int (nI best), .int (nI o), .int (nI b)] [] x Q := by
          intro n2
          induction n2 with
          | zero =>
            intro b hbn best x x1 x2 x3 x4
            refine b_X11_neededOf_42 hP hm ?_
            rw [x2.1.1.2.1, nI_clamp (by omega), x2.1.2.1.2.2.1, ld_Bsh b3]
            refine ⟨vp_in_nI hlv (by omega), pk_le (2 ^ ld_b W) b (fun _ => b_X11_neededOf_129 hP hm ?_) (fun z => by omega)⟩
            rw [nI_1]
            exact ih (o + 1) (by omega) best x _ x2 x3 (rn_row (fun b' h1 h2 => noB o b' (by omega) h2) x4)
          | succ n2 ih2 =>
            intro b hbn best x x1 x2 x3 x4
            have hb8 : b < 8 := by omega
            have hbest := rn_le x4
            have m1 := sb_n_8 o ho8
            have m2 := sb_n_8 b hb8
            have hDm := dp_D_max (o := o) hok hr.1 hq.2.2.2.1 hb8
            have skip : (nd_ok W h (ld_ro W k) o b → sb_n o + sb_n b ≥ best) → gc_T P d 0 0 282 123 [.ref 67, .int (nI k), .int (nI best), .int (nI o), .int (nI b)] [] x Q := by
              intro hno
              refine b_X11_neededOf_123 hP hm ?_
              rw [nI_1]
              exact ih2 (b + 1) (by omega) best x x1 x2 x3 (rn_skip ho8 hb8 x4 hno)
            refine b_X11_neededOf_42 hP hm ?_
            rw [x2.1.1.2.1, nI_clamp (by omega), x2.1.2.1.2.2.1, ld_Bsh b3, x2.2.2.1.2.2, x2.2.2.1.1, st_subI b hb8 h.2.2 b2]
            refine ⟨vp_in_nI hlv (by omega), pk_le (2 ^ ld_b W) b (fun z => by omega) (fun _ => ⟨fun hb => skip (fun z => absurd z.2.1 hb), fun hb => ⟨by omega, ?_⟩⟩)⟩
            refine sp_claimDepth hP hm (by omega) x1 hk hq.2.2.2.1 (by omega) ?_
            show (nI (dp_D W o (ld_ro W k) h.1 b) = 0 → _) ∧ (¬ nI (dp_D W o (ld_ro W k) h.1 b) = 0 → _)
            rw [show (0 : Int32) = nI 0 from rfl, nI_eq (by omega) (by omega)]
            refine ⟨fun hD => skip (fun z => absurd hD z.2.2), fun hD => ⟨by omega, sp_bits hP hm ho8 ⟨by omega, sp_bits hP hm hb8 ?_⟩⟩⟩
            show (nI (sb_n o) + nI (sb_n b) < nI best → _) ∧ _
            rw [nI_add]
            refine pk_lt (sb_n o + sb_n b) best (fun z => ⟨by omega, sp_bits hP hm ho8 ⟨by omega, sp_bits hP hm hb8 (b_X11_neededOf_123 hP hm ?_)⟩⟩) (fun z => skip (fun _ => z))
            have g5 : fr RA RB x (gc_wF (gc_wF x 67 75 (nI o)) 67 76 (nI b)) := fr_wF rfl (fr_wF rfl (fr_refl x))
            have T5 : rw_T W lv o (gc_wF (gc_wF x 67 75 (nI o)) 67 76 (nI b)) := ⟨rf_RA x1.1 g5, by rw [F_ne _ _ (Or.inr (by decide)), F_ne _ _ (Or.inr (by decide))]; exact x1.2.1, x1.2.2⟩
            rw [nI_add, nI_1]
            exact ih2 (b + 1) (by omega) _ _ T5 (rq_of ho8 x2 T5 g5) (fr_trans x3 g5) (rn_take ho8 hb8 x4 ⟨hin, hb, hD⟩ z (by rw [F_ne _ _ (Or.inr (by decide)), F_eq]) (F_eq _ _ _ _))
        exact inner (2 ^ ld_b W) 0 (by omega) best u uT uq (fr_trans t2 g1) (rn_fr t3 (fr_F u4 rfl) (fr_F u4 rfl))
      · rw [nI_1]
        exact ih (o + 1) (by omega) best t _ t1 t2 (rn_row (fun b' _ _ z => hin z.1) t3)
  exact outer (2 ^ ld_o W) 0 (by omega) 9 s _ hq (fr_refl s) (Or.inl ⟨rfl, fun o' b' _ z => by omega⟩)
theorem sp_mneeded (hP : gc_Cl P) (hm : gc_Mo P) (hd : 7 ≤ d) (hq : rq W lv h s) {c wx : Int32} (h1 : ∀ k w t, k < ld_c W → c = nI k → w < 3 → wx = nI w → rq W lv h t → fr RA RB s t → Q (some (.int (an_nd W h (ld_ro W k) w))) t) (h2 : ((∀ k, k < ld_c W → c ≠ nI k) ∨ (∀ k, k < 3 → wx ≠ nI k)) → Q (some (.int (-1))) s) : gc_T P d 0 0 283 0 [.ref 67, .int c, .int wx, gc_u] [] s Q := by
  obtain ⟨b1, b2, hok⟩ := rq_b hq
  refine b_X11_needed_0 hP hm ⟨by omega, sp_isClaim hP hm (by omega) hq.1 (fun k hk e => ⟨fun w => absurd w (by decide), fun _ => ⟨by omega, ?_⟩⟩) (fun e => ⟨fun _ => h2 (Or.inl e), fun w => absurd rfl w⟩)⟩
  refine sp_inN hP hm (n := 3) (by decide) (by decide) (fun w hw ew => ⟨fun _ => ⟨by omega, ?_⟩, fun y => absurd y (by decide)⟩) (fun ew => ⟨fun y => absurd rfl y, fun _ => h2 (Or.inr ew)⟩)
  have hr := ld_root hok hk
  have hfin := fun u => h1 k w u hk e hw ew
  rw [e, ew]
  refine sp_neededOf hP hm (by omega) hq hk fun best t t1 t2 t3 => ?_
  have hf := hfin t t1 t2
  unfold an_nd at hf
  rcases t3 with ⟨g1, g2⟩ | ⟨o1, c1, g1, g2, g3, g4, g5, g6, g7, g8⟩
  · have hD : dp_D W h.2.1 (ld_ro W k) h.1 h.2.2 = 0 := by
      by_cases e0 : dp_D W h.2.1 (ld_ro W k) h.1 h.2.2 = 0
      · exact e0
      · exact absurd ⟨sb_self _ b1, sb_self _ b2, e0⟩ (g2 h.2.1 h.2.2 b2 (Or.inl b1))
    rw [if_pos hD] at hf
    rw [g1]
    exact ⟨fun y => absurd rfl y, fun _ => hf⟩
  · have hD : dp_D W h.2.1 (ld_ro W k) h.1 h.2.2 ≠ 0 := D_mono hok b1 g1 g4.1 hr.1 hq.2.2.2.1 b2 g2 g4.2.1 g4.2.2
    rw [if_neg hD] at hf
    have hle1 := (sb_le h.2.1 b1 o1 g1 g4.1).1
    have hle2 := (sb_le h.2.2 b2 c1 g2 g4.2.1).1
    have hnd : nd W h (ld_ro W k) (h.2.1 + 1) = some (nd_k o1 c1) := by
      obtain ⟨z, z1, z2⟩ := (nd_p (W := W) (h := h) (p := ld_ro W k) (h.2.1 + 1)).2 o1 c1 (by omega) g4.1 hle2 g4.2.1 g4.2.2
      obtain ⟨o2, c2, y1, y2, y3, y4, y5, y6⟩ := (nd_p (W := W) (h := h) (p := ld_ro W k) (h.2.1 + 1)).1 z z1
      have := g8 o2 c2 (by omega) (Or.inl (by omega)) ⟨y2, y4, y5⟩
      rw [z1, show z = nd_k o1 c1 by omega]
    obtain ⟨q1, q2, q3, q4⟩ := nd_k_le o1 g1 c1 g2
    have n1 := sb_n_8 o1 g1
    have n2 := sb_n_8 c1 g2
    rw [hnd] at hf
    refine ⟨fun _ => ?_, fun y => ?_⟩
    · rw [g6, g7]
      match w, hw, hf with
      | 0, _, hf =>
        refine ⟨fun z => absurd rfl z, fun _ => ?_⟩
        have hf : Q (some (.int (nI (nd_k o1 c1 / 64)))) t := hf
        rw [q2, ← g5] at hf
        exact hf
      | 1, _, hf =>
        refine ⟨fun _ => ⟨fun z => absurd rfl z, fun _ => ?_⟩, fun z => absurd z (by decide)⟩
        have hf : Q (some (.int (nI (nd_k o1 c1 / 8 % 8)))) t := hf
        rw [q3] at hf
        exact hf
      | 2, _, hf =>
        refine ⟨fun _ => ⟨fun _ => ?_, fun z => absurd z (by decide)⟩, fun z => absurd z (by decide)⟩
        have hf : Q (some (.int (nI (nd_k o1 c1 % 8)))) t := hf
        rw [q4] at hf
        exact hf
    · rw [show (9 : Int32) = nI 9 from rfl, nI_eq (by omega) (by decide)] at y
      omega
end Nb
