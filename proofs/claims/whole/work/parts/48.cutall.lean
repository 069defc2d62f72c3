theorem tk_can_0 {kf pf vf : Nat → Int32} {nf : Nat → Int64} {s : gc_St} : gc_wF s 67 11 0 = tk_can 0 kf pf vf nf s := by
  have m1 : ∀ f g : Nat → Int32, tk_mix 0 f g = g := fun f g => by funext j; unfold tk_mix; rw [if_neg (by omega)]
  have m2 : ∀ f g : Nat → Int64, tk_mix 0 f g = g := fun f g => by funext j; unfold tk_mix; rw [if_neg (by omega)]
  refine Prod.ext rfl (Prod.ext ?_ (Prod.ext ?_ rfl))
  · funext a
    show s.2.1 a = va_up (va_up (va_up s.2.1 71 (tk_mix 0 kf (s.2.1 71))) 72 (tk_mix 0 pf (s.2.1 72))) 73 (tk_mix 0 vf (s.2.1 73)) a
    rw [m1, m1, m1]
    unfold va_up
    by_cases e1 : a = 73
    · simp [e1]
    · by_cases e2 : a = 72
      · simp [e2]
      · by_cases e3 : a = 71
        · simp [e3]
        · simp [e1, e2, e3]
  · funext a
    show s.2.2.1 a = va_up s.2.2.1 74 (tk_mix 0 nf (s.2.2.1 74)) a
    rw [m2]
    unfold va_up
    by_cases e : a = 74
    · simp [e]
    · simp [e]
section Ca
variable {P : gc_Pr} {d : Nat} {s : gc_St} {Q : gc_TQ}
/-- the bytes of the text -/
abbrev tk_tx (s : gc_St) : Nat → Nat := fun j => tk_b (gc_I s 70 j)
/-- the reference's rows with all TOKENS up to the T-th -/
def tk_all (kw : Nat → Nat) (b : Nat → Nat) (n T : Nat) (s : gc_St) : gc_St := tk_can T (fun t => tk_kd kw b n (tk_st b n t)) (fun t => nI (tk_st b n t)) (fun t => tk_vl b n (tk_st b n t)) (fun t => lN (tk_na b n (tk_st b n t))) s
/-- how many there are: 401, or up to the end -/
def tk_T (b : Nat → Nat) (n T : Nat) : Prop := T ≤ 401 ∧ ((T = 401 ∧ ∀ t, t < 401 → tk_st b n t < n) ∨ (1 ≤ T ∧ tk_st b n (T - 1) = n ∧ ∀ t, t + 1 < T → tk_st b n t < n))
theorem sp_cut (hP : gc_Cl P) (hm : gc_Mo P) (hd : 2 ≤ d) {n : Nat} {kw : Nat → Nat} (hn : n ≤ 2000) (hF : gc_F s 67 5 = nI n) (hJ : ∀ k, k < 10 → gc_J s 75 k = lN (kw k)) (hkw : ∀ k, k < 10 → kw k < 2 ^ 63)
    (h : ∀ T, tk_T (tk_tx s) n T → Q none (tk_all kw (tk_tx s) n T s)) : gc_T P d 0 0 182 0 [.ref 67, gc_u, gc_u, gc_u, gc_u, gc_u, gc_u, gc_u] [] s Q := by
  generalize hb : tk_tx s = b at h
  have hbt : ∀ T j, tk_b (gc_I (tk_all kw b n T s) 70 j) = b j := fun T j => by rw [← hb]; rfl
  have hlt : ∀ j, b j < 256 := fun j => by rw [← hb]; exact tk_b_lt _
  have hFT : ∀ T, gc_F (tk_all kw b n T s) 67 5 = nI n := fun T => hF
  have hF11 : ∀ T, gc_F (tk_all kw b n T s) 67 11 = nI T := fun T => rfl
  have hJT : ∀ T k, k < 10 → gc_J (tk_all kw b n T s) 75 k = lN (kw k) := fun T k hk => hJ k hk
  have key : ∀ m i t, n - i ≤ m → i ≤ n → t ≤ 401 → tk_skp b n i = tk_st b n t → (∀ u, u < t → tk_st b n u < n) → ∀ l2 l3 l4 l6 l7 : Value, gc_T P d 0 0 182 7 [.ref 67, .int (nI i), l2, l3, l4, gc_u, l6, l7] [] (tk_all kw b n t s) Q := by
    intro m
    induction m with
    | zero =>
      intro i t h1 h2 h3 h4 h5 l2 l3 l4 l6 l7
      obtain rfl : i = n := by omega
      rw [tk_skp_n] at h4
      refine b_X11_cut_7 hP hm ?_
      rw [hF11, st_lit 400, nI_ltI (by omega) (by omega)]
      refine ⟨fun y => ?_, fun y => ⟨by omega, ?_⟩⟩
      · obtain rfl : t = 401 := by omega
        exact h 401 ⟨by omega, Or.inl ⟨rfl, h5⟩⟩
      · refine sp_mbyteAt hP hm hn (by omega) (hFT t) ?_
        rw [if_neg (by omega)]
        refine ⟨fun y2 => ?_, fun _ => ⟨by omega, ?_⟩⟩
        · rw [hFT, nI_ltI (by omega) (by omega)] at y2
          omega
        · rw [hFT]
          refine sp_token hP hm (by omega) ?_ ?_ ?_ ?_ ?_
          · show (0 : Int32) = tk_kd kw b i (tk_st b i t)
            rw [← h4]; unfold tk_kd; rw [if_pos (Nat.le_refl _)]
          · show nI i = nI (tk_st b i t)
            rw [← h4]
          · show (0 : Int32) = tk_vl b i (tk_st b i t)
            rw [← h4]; unfold tk_vl; rw [if_pos (Nat.le_refl _)]
          · show (0 : Int64) = lN (tk_na b i (tk_st b i t))
            rw [← h4]; unfold tk_na; rw [if_pos (Nat.le_refl _)]; rfl
          · exact h (t + 1) ⟨by omega, Or.inr ⟨by omega, h4.symm, fun u hu => h5 u (by omega)⟩⟩
    | succ m ih =>
      intro i t h1 h2 h3 h4 h5 l2 l3 l4 l6 l7
      by_cases hge : n ≤ i
      · exact ih i t (by omega) h2 h3 h4 h5 l2 l3 l4 l6 l7
      have hin : i < n := by omega
      have hbi := hlt i
      refine b_X11_cut_7 hP hm ?_
      rw [hF11, st_lit 400, nI_ltI (by omega) (by omega)]
      refine ⟨fun y => ?_, fun y => ⟨by omega, ?_⟩⟩
      · obtain rfl : t = 401 := by omega
        exact h 401 ⟨by omega, Or.inl ⟨rfl, h5⟩⟩
      · refine sp_mbyteAt hP hm hn (by omega) (hFT t) ?_
        rw [if_pos hin, hbt]
        refine ⟨fun _ => ?_, fun y2 => absurd (by rw [hFT, nI_ltI (by omega) (by omega)]; exact hin) y2⟩
        have blank : tk_B (nI (b i)) = true → ∀ l3 l4 l6 l7 : Value, gc_T P d 0 0 182 67 [.ref 67, .int (nI i), .int (nI (b i)), l3, l4, gc_u, l6, l7] [] (tk_all kw b n t s) Q := by
          intro hB l3 l4 l6 l7
          refine b_X11_cut_67 hP hm (b_X11_cut_291 hP hm ?_)
          rw [nI_1]
          exact ih (i + 1) t (by omega) (by omega) h3 (by rw [← tk_skp_bl hin hB]; exact h4) h5 _ _ _ _ _
        refine ⟨fun y9 => blank (by simp [tk_B, y9]) _ _ _ _, fun y9 => ⟨fun y10 => blank (by simp [tk_B, y10]) _ _ _ _, fun y10 => ⟨fun y13 => blank (by simp [tk_B, y13]) _ _ _ _, fun y13 => ⟨fun y32 => ?_, fun y32 => blank (by simp [tk_B, y32]) _ _ _ _⟩⟩⟩⟩
        have hno : tk_B (nI (b i)) = false := by simp [tk_B, y9, y10, y13, y32]
        have hst : tk_st b n t = i := by rw [← h4, tk_skp_no hno]
        have h5' : ∀ u, u < t + 1 → tk_st b n u < n := fun u hu => by
          rcases Nat.lt_or_ge u t with hu2 | hu2
          · exact h5 u hu2
          · obtain rfl : u = t := by omega
            omega
        have hend : ∀ e, tk_end b n i = e → tk_skp b n e = tk_st b n (t + 1) := fun e he => by
          show _ = tk_skp b n (tk_end b n (tk_st b n t))
          rw [hst, he]
        refine ⟨by omega, sp_mLetter hP hm ?_⟩
        refine ⟨fun y6 => ⟨by omega, sp_mDigit hP hm ?_⟩, fun y6 => ?_⟩
        · have hL : tk_L (nI (b i)) = false := by
            cases e : tk_L (nI (b i)) with
            | false => rfl
            | true => rw [e] at y6; exact absurd y6 (by decide)
          refine ⟨fun y7 => ⟨by omega, ?_⟩, fun y7 => ?_⟩
          · have hD : tk_D (nI (b i)) = false := by
              cases e : tk_D (nI (b i)) with
              | false => rfl
              | true => rw [e] at y7; exact absurd y7 (by decide)
            rw [nI_1]
            refine sp_mbyteAt hP hm hn (by omega) (hFT t) ?_
            refine ⟨by omega, sp_sign hP hm (by omega) (by omega) hbi ?_ ?_ ?_ ?_ ?_⟩
            · show tk_sg (b i) = tk_kd kw b n (tk_st b n t)
              rw [hst]; unfold tk_kd; simp [Nat.not_le.mpr hin, hL, hD]
            · show nI i = nI (tk_st b n t)
              rw [hst]
            · show (0 : Int32) = tk_vl b n (tk_st b n t)
              rw [hst]; unfold tk_vl; simp [hL, hD]
            · show (0 : Int64) = lN (tk_na b n (tk_st b n t))
              rw [hst]; unfold tk_na; simp [hL]; rfl
            · refine b_X11_cut_291 hP hm ?_
              rw [nI_1]
              exact ih (i + 1) (t + 1) (by omega) (by omega) (by omega) (hend _ (by unfold tk_end; simp [hL, hD])) h5' _ _ _ _ _
          · have hD : tk_D (nI (b i)) = true := by
              cases e : tk_D (nI (b i)) with
              | true => rfl
              | false => rw [e] at y7; exact absurd rfl y7
            obtain ⟨e1, e2, e3, e4⟩ := tk_eD_in hin hD
            refine cut_digits hP hm (by omega) (e := tk_eD b n i) hn (hFT t) (by omega) e2 (fun j a1 a2 => by rw [hbt]; exact e3 j a1 a2) (fun a => by rw [hbt]; exact e4 a) ?_
            refine b_X11_cut_261 hP hm ⟨by omega, sp_token hP hm (by omega) ?_ ?_ ?_ ?_ ?_⟩
            · show _ = tk_kd kw b n (tk_st b n t)
              rw [hst]; unfold tk_kd; simp [Nat.not_le.mpr hin, hL, hD]
            · show nI i = nI (tk_st b n t)
              rw [hst]
            · show _ = tk_vl b n (tk_st b n t)
              rw [hst]; unfold tk_vl; rw [if_neg (by omega), if_neg (by rw [hL]; decide), if_pos hD]
              rw [show (fun j => tk_b (gc_I (tk_all kw b n t s) 70 j)) = b from funext (hbt t)]
            · show (0 : Int64) = lN (tk_na b n (tk_st b n t))
              rw [hst]; unfold tk_na; simp [hL]; rfl
            · refine b_X11_cut_291 hP hm ?_
              rw [nI_add, show i + (tk_eD b n i - i) = tk_eD b n i by omega]
              exact ih (tk_eD b n i) (t + 1) (by omega) (by omega) (by omega) (hend _ (by unfold tk_end; simp [hL, hD])) h5' _ _ _ _ _
        · have hL : tk_L (nI (b i)) = true := by
            cases e : tk_L (nI (b i)) with
            | true => rfl
            | false => rw [e] at y6; exact absurd rfl y6
          obtain ⟨e1, e2, e3, e4⟩ := tk_eL_in hin hL
          have hletters : ∀ u, u < min (tk_eL b n i - i) 8 → 97 ≤ b (i + u) ∧ b (i + u) ≤ 122 := fun u hu => (tk_L_iff (Nat.lt_trans (hlt _) (by decide))).mp (e3 (i + u) (by omega) (by omega))
          have hx : tk_nm 27 b i (min (tk_eL b n i - i) 8) < 2 ^ 63 := Nat.lt_of_lt_of_le (tk_nm_lt (by decide) _ hletters) (Nat.le_trans (Nat.pow_le_pow_right (by decide) (show min (tk_eL b n i - i) 8 ≤ 8 by omega)) (by decide))
          refine cut_letters hP hm (by omega) (e := tk_eL b n i) hn (hFT t) (by omega) e2 (fun j a1 a2 => by rw [hbt]; exact e3 j a1 a2) (fun a => by rw [hbt]; exact e4 a) ?_
          rw [show (fun j => tk_b (gc_I (tk_all kw b n t s) 70 j)) = b from funext (hbt t)]
          have fin : ∀ (kd : Int32) (l7 : Value), kd = tk_kd kw b n i → gc_T P d 0 0 182 179 [.ref 67, .int (nI i), .int (nI (b i)), .int (nI (tk_eL b n i - i)), .long (lN (tk_nm 27 b i (min (tk_eL b n i - i) 8))), gc_u, .int kd, l7] [] (tk_all kw b n t s) Q := by
            intro kd l7 hkd
            refine b_X11_cut_179 hP hm ⟨by omega, sp_token hP hm (by omega) ?_ ?_ ?_ ?_ ?_⟩
            · show kd = tk_kd kw b n (tk_st b n t)
              rw [hst]; exact hkd
            · show nI i = nI (tk_st b n t)
              rw [hst]
            · show (0 : Int32) = tk_vl b n (tk_st b n t)
              rw [hst]; unfold tk_vl; simp [hL]
            · show _ = lN (tk_na b n (tk_st b n t))
              rw [hst]; unfold tk_na; rw [if_neg (by omega), if_pos hL]
            · refine b_X11_cut_291 hP hm ?_
              rw [nI_add, show i + (tk_eL b n i - i) = tk_eL b n i by omega]
              exact ih (tk_eL b n i) (t + 1) (by omega) (by omega) (by omega) (hend _ (by unfold tk_end; simp [hL])) h5' _ _ _ _ _
          have hkd0 : tk_kd kw b n i = if tk_eL b n i - i ≤ 7 then tk_kw kw (tk_nm 27 b i (min (tk_eL b n i - i) 8)) 1 10 else if tk_eL b n i - i ≤ 8 then 1 else 3 := by
            unfold tk_kd
            rw [if_neg (show ¬ n ≤ i by omega), if_pos hL]
          refine b_X11_cut_135 hP hm ?_
          rw [st_lit 7, nI_ltI (by omega) (by omega)]
          refine ⟨fun y7 => fin _ _ ?_, fun y7 => cut_keys hP hm (hJT t) hkw hx (fin _ _ ?_)⟩
          · rw [hkd0, if_neg (show ¬ tk_eL b n i - i ≤ 7 by omega)]
          · rw [hkd0, if_pos (show tk_eL b n i - i ≤ 7 by omega), if_pos (show tk_eL b n i - i ≤ 8 by omega)]
  refine b_X11_cut_0 hP hm ?_
  rw [tk_can_0 (kf := fun t => tk_kd kw b n (tk_st b n t)) (pf := fun t => nI (tk_st b n t)) (vf := fun t => tk_vl b n (tk_st b n t)) (nf := fun t => lN (tk_na b n (tk_st b n t)))]
  exact key n 0 0 (by omega) (by omega) (by omega) rfl (fun u hu => by omega) _ _ _ _ _
end Ca
