/-! The reference: the table of depths for a set of OATHS. -/
section Fi
variable {P : gc_Pr} {d : Nat} {s : gc_St} {Q : gc_TQ} {W : ld_W} {lv o p : Nat}
theorem rtd_w {f : Nat → Int32} (hok : ld_ok W) (h : rtd W o p (gc_wR s 100 f)) {st b : Nat} {x : Int32} (hst : st < ld_N W) (hb : b < 2 ^ ld_b W) : rtd W o p (gc_wR s 100 (upd f (sp3 p st b) x)) := by
  have hN := ld_N_le hok
  unfold rtd at h ⊢
  rw [I_wR] at h ⊢
  intro p' hp' t c ht hc
  rw [pk_un (fun e => by
    have := sp3_inj (by omega) (p8 hok.1.2.2.1 hc) (by omega) (p8 hok.1.2.2.1 hb) e
    omega)]
  exact h p' hp' t c ht hc
/-- all is right -/
def rtt (W : ld_W) (o : Nat) (s : gc_St) : Prop := ∀ p st b, p < ld_p W → st < ld_N W → b < 2 ^ ld_b W → gc_I s 100 (sp3 p st b) = nI (dp_D W o p st b)
/-- the table that is there, if any -/
def rft (W : ld_W) (s : gc_St) : Prop := ∃ x : Int32, gc_F s 67 53 = x ∧ (x = -1 ∨ ∃ o, o < 8 ∧ x = nI o ∧ rtt W o s)
def Am (k : Nat) (q j : Nat) : Bool := Nat.beq q 67 && Nat.beq j k
def Bm (a : Nat) (q : Nat) : Bool := Nat.beq q a
theorem sp_fills (hP : gc_Cl P) (hm : gc_Mo P) (hd : 4 ≤ d) (hl : rf_law W lv s) (ho : o < 8) (hT : rft W s) (h : ∀ t, rf_law W lv t → gc_F t 67 53 = nI o → rtt W o t → fr (Am 53) (Bm 100) s t → Q none t) : gc_T P d 0 0 232 0 [.ref 67, .int (nI o), gc_u, gc_u, gc_u] [] s Q := by
  have hok := hl.1.2.2
  have hp24 := hok.1.2.2.2.2
  have hN := ld_N_le hok
  have hB : 2 ^ ld_b W ≤ 8 := ld_B_le hok
  have hlv := hl.1.1
  have b3 := hok.1.2.2.1
  refine b_X11_fills_0 hP hm ⟨fun z => ?_, fun z => ?_⟩
  · have hl0 : rf_law W lv (gc_wF s 67 53 (nI o)) := rf_law_of hl (by rw [F_ne _ _ (Or.inr (by decide))]) (fun _ _ => rfl)
    have g0 : ∀ f, fr (Am 53) (Bm 100) s (gc_wR (gc_wF s 67 53 (nI o)) 100 f) := fun f => fr_wR rfl (fr_wF rfl (fr_refl s))
    have hF0 : gc_F (gc_wF s 67 53 (nI o)) 67 53 = nI o := F_eq _ _ _ _
    generalize gc_wF s 67 53 (nI o) = s1 at hl0 g0 hF0
    have hL := fun f => rf_100 hl0 f
    have hF19 : ∀ f, gc_F (gc_wR s1 100 f) 67 19 = nI lv := fun _ => hl0.1.2.1
    have outer : ∀ n p, p + n = ld_p W → ∀ (f : Nat → Int32) (l3 l4 : Value), rtd W o p (gc_wR s1 100 f) → gc_T P d 0 0 232 16 [.ref 67, .int (nI o), .int (nI p), l3, l4] [] (gc_wR s1 100 f) Q := by
      intro n
      induction n with
      | zero =>
        intro p hpn f l3 l4 hr
        refine b_X11_fills_16 hP hm ?_
        rw [hF19, nI_clamp (by omega), (hL f).2.1.2.2.2.2]
        refine ⟨vp_in_nI hlv (by omega), pk_le (ld_p W) p (fun _ => ?_) (fun z => by omega)⟩
        exact h _ (hL f) hF0 (fun p' st b hp' hst hb => hr p' (by omega) st b hst hb) (g0 f)
      | succ n ih =>
        intro p hpn f l3 l4 hr
        have hp : p < ld_p W := by omega
        refine b_X11_fills_16 hP hm ?_
        rw [hF19, nI_clamp (by omega), (hL f).2.1.2.2.2.2]
        refine ⟨vp_in_nI hlv (by omega), pk_le (ld_p W) p (fun z => by omega) (fun _ => ?_)⟩
        -- until nothing changes
        have lp : ∀ w (T : Nat → Nat → Nat) (f : Nat → Int32) (l4 : Value), rtb W o p T (gc_wR s1 100 f) → rc_I W o p T → dp_ct (fun i => !decide (fl (2 ^ ld_b W) T i = fl (2 ^ ld_b W) (fun st b => dp_D W o p st b) i)) (ld_N W * 2 ^ ld_b W) ≤ w → gc_T P d 0 0 232 92 [.ref 67, .int (nI o), .int (nI p), .int 1, l4] [] (gc_wR s1 100 f) Q := by
          intro w
          induction w with
          | zero =>
            intro T f l4 t1 t2 t3
            refine b_X11_fills_92 hP hm ⟨fun y => absurd y (by decide), fun _ => ⟨by omega, ?_⟩⟩
            refine sp_comesCloser hP hm (by omega) hl0 ho hF0 hp t1 t2 fun T' f' c u1 u2 u3 u4 u5 u6 => ?_
            have hall : ∀ st b, st < ld_N W → b < 2 ^ ld_b W → T st b = dp_D W o p st b := by
              intro st b hst hb
              have := dp_ct_0 (Nat.le_zero.mp t3) (ix_lt hst hb)
              simp only [Bool.not_eq_false', decide_eq_true_eq] at this
              rw [fl_at' hb, fl_at' hb] at this
              exact this
            cases c with
            | true =>
              obtain ⟨st, b, y1, y2, y3⟩ := u6 rfl
              refine absurd ?_ y3
              have := u3 st b y1 y2
              rw [hall st b y1 y2] at this ⊢
              exact dp_bt_eq this (fun y => dp_D_le (u2.1 st b y1 y2 y))
            | false =>
              refine b_X11_fills_92 hP hm ⟨fun _ => ?_, fun y => absurd rfl y⟩
              rw [nI_1]
              refine ih (p + 1) (by omega) f' _ _ fun p' hp' st b hst hb => ?_
              by_cases e : p' = p
              · rw [e, u1.2 st b hst hb, u5 rfl st b hst hb, hall st b hst hb]
              · exact u1.1 p' (by omega) st b hst hb
          | succ w ihw =>
            intro T f l4 t1 t2 t3
            refine b_X11_fills_92 hP hm ⟨fun y => absurd y (by decide), fun _ => ⟨by omega, ?_⟩⟩
            refine sp_comesCloser hP hm (by omega) hl0 ho hF0 hp t1 t2 fun T' f' c u1 u2 u3 u4 u5 u6 => ?_
            cases c with
            | true =>
              refine ihw T' f' l4 u1 u2 ?_
              have hex : ∃ st b, st < ld_N W ∧ b < 2 ^ ld_b W ∧ T st b ≠ dp_D W o p st b := by
                obtain ⟨st, b, y1, y2, y3⟩ := u6 rfl
                refine ⟨st, b, y1, y2, fun e => y3 ?_⟩
                have := u3 st b y1 y2
                rw [e] at this ⊢
                exact dp_bt_eq this (fun y => dp_D_le (u2.1 st b y1 y2 y))
              have := rc_round hok hp t2 u2 u3 u4 hex
              omega
            | false =>
              have hall := rc_fin hok hp t2 (fun st b hst hb m hmm => by rw [← u5 rfl st b hst hb]; exact u4 st b hst hb m hmm)
              refine b_X11_fills_92 hP hm ⟨fun _ => ?_, fun y => absurd rfl y⟩
              rw [nI_1]
              refine ih (p + 1) (by omega) f' _ _ fun p' hp' st b hst hb => ?_
              by_cases e : p' = p
              · rw [e, u1.2 st b hst hb, u5 rfl st b hst hb, hall st b hst hb]
              · exact u1.1 p' (by omega) st b hst hb
        -- by the POINT's own kind first
        have i1 : ∀ n st, st + n = ld_N W → ∀ (f : Nat → Int32) (l4 : Value), rtd W o p (gc_wR s1 100 f) → (∀ t b, t < st → b < 2 ^ ld_b W → ∃ x, owv W o p t b x ∧ f (sp3 p t b) = nI x) → gc_T P d 0 0 232 31 [.ref 67, .int (nI o), .int (nI p), .int (nI st), l4] [] (gc_wR s1 100 f) Q := by
          intro n
          induction n with
          | zero =>
            intro st hst f l4 r1 r2
            refine b_X11_fills_31 hP hm ⟨by omega, sp_stocksAll hP hm (hL f) (pk_le (ld_N W) st (fun _ => ?_) (fun z => by omega))⟩
            have hv : ∀ t b, t < ld_N W → b < 2 ^ ld_b W → owv W o p t b (f (sp3 p t b)).toBitVec.toNat ∧ f (sp3 p t b) = nI (f (sp3 p t b)).toBitVec.toNat := by
              intro t b ht hb
              obtain ⟨x, x1, x2⟩ := r2 t b (by omega) hb
              have := x1.2.2
              rw [x2, pk_tn (by omega)]
              exact ⟨x1, rfl⟩
            refine lp (ld_N W * 2 ^ ld_b W) (fun t b => (f (sp3 p t b)).toBitVec.toNat) f l4 ⟨r1, fun t b ht hb => ?_⟩ ⟨fun t b ht hb hne => ?_, fun t b ht hb => (hv t b ht hb).1.2.1, fun t b ht hb => ?_⟩ (dp_ct_le _ _)
            · rw [I_wR]
              exact (hv t b ht hb).2
            · obtain ⟨m, hmm, hby⟩ := (hv t b ht hb).1.1 hne
              have hne' : (f (sp3 p t b)).toBitVec.toNat ≠ 0 := hne
              have := dp_by_Sh hok hp ht (p8 b3 hb) (mv_all_mem.mpr (Or.inl hmm)) (by rw [hby]; exact hne')
              rw [hby] at this
              exact this
            · have := (hv t b ht hb).1.2.2
              show (f (sp3 p t b)).toBitVec.toNat ≤ _
              omega
          | succ n ih1 =>
            intro st hst f l4 r1 r2
            refine b_X11_fills_31 hP hm ⟨by omega, sp_stocksAll hP hm (hL f) (pk_le (ld_N W) st (fun z => by omega) (fun _ => ?_))⟩
            have i2 : ∀ n b, b + n = 2 ^ ld_b W → ∀ (f : Nat → Int32), rtd W o p (gc_wR s1 100 f) → (∀ t b', t < st ∨ (t = st ∧ b' < b) → b' < 2 ^ ld_b W → ∃ x, owv W o p t b' x ∧ f (sp3 p t b') = nI x) → gc_T P d 0 0 232 42 [.ref 67, .int (nI o), .int (nI p), .int (nI st), .int (nI b)] [] (gc_wR s1 100 f) Q := by
              intro n
              induction n with
              | zero =>
                intro b hb f r1 r2
                refine b_X11_fills_42 hP hm ?_
                rw [hF19, nI_clamp (by omega), (hL f).2.1.2.2.1, ld_Bsh b3]
                refine ⟨vp_in_nI hlv (by omega), pk_le (2 ^ ld_b W) b (fun _ => ?_) (fun z => by omega)⟩
                rw [nI_1]
                exact ih1 (st + 1) (by omega) f _ r1 (fun t b' ht hb' => r2 t b' (by omega) hb')
              | succ n ih2 =>
                intro b hb f r1 r2
                have hsp := sp3_lt (show p < 24 by omega) (show st < 256 by omega) (show b < 8 by omega)
                refine b_X11_fills_42 hP hm ?_
                rw [hF19, nI_clamp (by omega), (hL f).2.1.2.2.1, ld_Bsh b3]
                refine ⟨vp_in_nI hlv (by omega), pk_le (2 ^ ld_b W) b (fun z => by omega) (fun _ => ⟨by omega, sp_spot hP hm ⟨by omega, sp_byKind hP hm (by omega) (hL f) hp r1 (by omega) (by omega) fun x hx => ⟨vp_in_nI hsp (by omega), ?_⟩⟩⟩)⟩
                rw [nI_clamp (by omega), wR_wI, nI_1]
                refine ih2 (b + 1) (by omega) _ (rtd_w hok r1 (by omega) (by omega)) (fun t b' ht hb' => ?_)
                by_cases e : t = st ∧ b' = b
                · rw [e.1, e.2, pk_us]
                  exact ⟨x, hx, rfl⟩
                · rw [pk_un (fun e2 => by
                    have := sp3_inj (by omega) (p8 b3 hb') (by omega) (show b < 8 by omega) e2
                    omega)]
                  exact r2 t b' (by omega) hb'
            exact i2 (2 ^ ld_b W) 0 (by omega) f r1 (fun t b' ht hb' => r2 t b' (by omega) hb')
        exact i1 (ld_N W) 0 (by omega) f _ hr (fun t b ht => absurd ht (Nat.not_lt_zero _))
    have := outer (ld_p W) 0 (by omega) (gc_I s1 100) gc_u gc_u (fun p' hp' => absurd hp' (Nat.not_lt_zero _))
    rw [wR_id] at this
    exact this
  · obtain ⟨x, h1, h2⟩ := hT
    rw [z] at h1
    rcases h2 with h2 | ⟨o', h3, h4, h5⟩
    · rw [h2] at h1
      exact absurd h1 (m1_ne (by omega))
    · rw [← h1, nI_eq (by omega) (by omega)] at h4
      rw [← h4] at h5
      exact h s hl z h5 (fr_refl s)
end Fi
