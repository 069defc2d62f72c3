/-! A U: leaves, what opens, by both. -/
def uX (b : Nat → Nat) (n Tc Tr L sd mc mr : Nat) (nc nr : List (List Nat × Nat × Nat)) (i : Nat) (W : ld_W) (r : Option (Nat × Nat)) (o : Nat) : Prop := ∃ res, pzP b n i W r res ∧ uC b n Tc L mc nc i W r o res ∧ uR b n Tr sd mr nr i W r o res
def jX (b : Nat → Nat) (n Tc Tr L sd mc mr : Nat) (nc nr : List (List Nat × Nat × Nat)) (k i : Nat) (W : ld_W) (r : Option (Nat × Nat)) (o : Nat) : Prop := ∃ res, pzP b n i W r res ∧ jC b n Tc L mc nc k i W r o res ∧ jR b n Tr sd mr nr k i W r o res
section Lc
variable {P : gc_Pr} {d : Nat} {s s0 : gc_St} {Q : gc_TQ} {b : Nat → Nat} {n T L m i o : Nat} {nc nr : List (List Nat × Nat × Nat)} {W : ld_W} {r : Option (Nat × Nat)}
theorem z_unitLeaf (hP : gc_Cl P) (hm : gc_Mo P) (hd : 2 ≤ d) (hlt : ∀ j, b j < 256) (hG : ∀ w, gdC nc w = gd nr w) (hp24 : ld_p W ≤ 24) {kd : Nat} (hk : (rk b n i = 1 ∧ kd = 0) ∨ (rk b n i = 26 ∧ kd = 1) ∨ (rk b n i = 27 ∧ kd = 2)) (h : zC b n T L m nc s0 i W r o s)
    (h1 : ∀ t, i < 400 → ld_p W < 24 → zC b n T L m nc s0 (i + 1) (np W kd (lfN nr b n i r).2 0 (ld_p W)) (lfN nr b n i r).1 o t → Q (some (.int (nI (ld_p W)))) t) (h2 : ∀ t, i = 400 ∨ ld_p W = 24 → zFC L s0 2 (tk_st b n i) t → Q (some (.int (-1))) t) : gc_T P d 0 0 40 0 [.ref 9, gc_u, gc_u, gc_u] [] s Q := by
  have pt : ∀ (t : gc_St) (r1 : Option (Nat × Nat)) (l2 : Int32), r1 = (lfN nr b n i r).1 → i < 400 → zC b n T L m nc s0 (i + 1) W r1 o t → (r1 = none → l2 = kI1 kd (lfN nr b n i r).2) → gc_T P (d - 1) 0 0 45 0 [.ref 9, .int (nI kd), .int l2, .int (-1), gc_u] [] t (fun r28 s29 => gc_ri r28 fun x30 => Q (some (.int x30)) s29) := by
    intro t r1 l2 er hi ht hl2
    refine z_point hP hm (by omega) (fi := (lfN nr b n i r).2) (se := 0) (lo := ld_p W) (by omega) hp24 ht (by omega) hl2 (fun _ => ?_) (fun _ => rfl) (fun z => by omega) (fun u u1 u2 => ?_) (fun u u1 u2 => ?_)
    · unfold kI2
      rw [if_neg (by omega)]
    · rw [er] at u2
      exact h1 u hi u1 u2
    · rw [Nat.add_sub_cancel] at u2
      exact h2 u (Or.inr u1) u2
  refine b_X3_unit_0 hP hm ⟨by omega, sp_kindAhead hP hm h.1 ?_⟩
  rcases hk with ⟨e, e2⟩ | ⟨e, e2⟩ | ⟨e, e2⟩
  · have hc : ck b n i = 2 := (kc_1 _).mpr e
    rw [hc]
    refine ⟨fun z => absurd z (by decide), fun _ => ⟨fun z => absurd z (by decide), fun _ => ⟨fun _ => b_X3_unit_32 hP hm ⟨fun z => absurd rfl z, fun _ => ⟨fun _ => b_X3_unit_74 hP hm ⟨by omega, z_take hP hm kk_name e h (fun t t1 t2 t3 _ => ⟨fun _ => ⟨fun _ => b_X3_unit_117 hP hm ⟨fun _ => ⟨by omega, ?_⟩, fun z => absurd (by decide) z⟩, fun z => absurd rfl z⟩, fun z => absurd z (by decide)⟩) (fun t t1 t2 => ⟨fun z => absurd rfl z, fun _ => h2 t (Or.inl t1) t2⟩)⟩, fun z => absurd rfl z⟩⟩, fun z => absurd z (by decide)⟩⟩⟩
    refine z_lastGround hP hm (by omega) hG e t2 (by rw [t3]; exact nmC_at h.1 h.1.2.2.2 (Or.inl e)) (wdi_ok hlt (Or.inl e)) fun u y u1 u2 => ⟨by omega, ?_⟩
    have := pt u _ (nI y) rfl t1 u1 (fun z => by
      unfold kI1
      rw [if_neg (by omega), u2 z])
    rw [e2] at this
    exact this
  · have hc : ck b n i = 307 := (kc_26 _).mpr e
    have hlf := lfN_n (nr := nr) (r := r) (show rk b n i ≠ 1 by rw [e]; decide)
    rw [hc]
    refine ⟨fun z => absurd z (by decide), fun _ => ⟨fun z => absurd z (by decide), fun _ => ⟨fun _ => b_X3_unit_32 hP hm ⟨fun z => absurd rfl z, fun _ => ⟨fun z => absurd z (by decide), fun _ => ⟨fun _ => b_X3_unit_74 hP hm ⟨by omega, z_take hP hm kk_nothing e h (fun t t1 t2 t3 _ => ⟨fun _ => ⟨fun _ => b_X3_unit_117 hP hm ⟨fun z => absurd z (by decide), fun _ => ⟨fun _ => ⟨by omega, ?_⟩, fun z => absurd (by decide) z⟩⟩, fun z => absurd rfl z⟩, fun z => absurd z (by decide)⟩) (fun t t1 t2 => ⟨fun z => absurd rfl z, fun _ => h2 t (Or.inl t1) t2⟩)⟩, fun z => absurd rfl z⟩⟩⟩, fun z => absurd z (by decide)⟩⟩⟩
    have := pt t r (-1) (by rw [hlf]) t1 t2 (fun z => by
      unfold kI1
      rw [if_pos (Or.inl e2)])
    rw [e2] at this
    exact this
  · have hc : ck b n i = 308 := (kc_27 _).mpr e
    have hlf := lfN_n (nr := nr) (r := r) (show rk b n i ≠ 1 by rw [e]; decide)
    rw [hc]
    refine ⟨fun z => absurd z (by decide), fun _ => ⟨fun z => absurd z (by decide), fun _ => ⟨fun _ => b_X3_unit_32 hP hm ⟨fun z => absurd rfl z, fun _ => ⟨fun z => absurd z (by decide), fun _ => ⟨fun z => absurd z (by decide), fun _ => ⟨fun _ => b_X3_unit_74 hP hm ⟨by omega, z_take hP hm kk_rest e h (fun t t1 t2 t3 _ => ⟨fun _ => ⟨fun _ => b_X3_unit_117 hP hm ⟨fun z => absurd z (by decide), fun _ => ⟨fun z => absurd z (by decide), fun _ => ⟨fun _ => ⟨by omega, ?_⟩, fun z => absurd (by decide) z⟩⟩⟩, fun z => absurd rfl z⟩, fun z => absurd z (by decide)⟩) (fun t t1 t2 => ⟨fun z => absurd rfl z, fun _ => h2 t (Or.inl t1) t2⟩)⟩, fun z => absurd rfl z⟩⟩⟩⟩, fun z => absurd z (by decide)⟩⟩⟩
    have := pt t r (-1) (by rw [hlf]) t1 t2 (fun z => by
      unfold kI1
      rw [if_pos (Or.inr e2)])
    rw [e2] at this
    exact this
theorem z_unitBad (hP : gc_Cl P) (hm : gc_Mo P) (hd : 1 ≤ d) (h : zC b n T L m nc s0 i W r o s) (hk : rk b n i ≠ 1 ∧ rk b n i ≠ 26 ∧ rk b n i ≠ 27 ∧ rk b n i ≠ 6 ∧ rk b n i ≠ 11 ∧ rk b n i ≠ 29) (h2 : ∀ t, zFC L s0 1 (tk_st b n i) t → Q (some (.int (-1))) t) : gc_T P d 0 0 40 0 [.ref 9, gc_u, gc_u, gc_u] [] s Q :=
  b_X3_unit_0 hP hm ⟨hd, sp_kindAhead hP hm h.1 ⟨fun z => absurd ((kc_29 _).mp z) hk.2.2.2.2.2, fun _ => ⟨fun z => absurd ((kc_11 _).mp z) hk.2.2.2.2.1, fun _ => ⟨fun _ => b_X3_unit_32 hP hm ⟨fun z => absurd rfl z, fun _ => ⟨fun z => absurd ((kc_1 _).mp z) hk.1, fun _ => ⟨fun z => absurd ((kc_26 _).mp z) hk.2.1, fun _ => ⟨fun z => absurd ((kc_27 _).mp z) hk.2.2.1, fun _ => ⟨hd, sp_placeAhead hP hm h.1 ⟨hd, z_blame hP hm (x := 1) (by decide) h.2.2.1 fun t t1 => h2 t t1⟩⟩⟩⟩⟩⟩, fun z => absurd ((kc_6 _).mp z) hk.2.2.2.1⟩⟩⟩⟩
/-- what is open closes -/
def kQ (Q : gc_TQ) : gc_TQ := fun r1 s2 => gc_ri r1 fun x3 => Q (some (.int x3)) (gc_wF s2 9 2 ((gc_F s2 9 2) - 1))
theorem z_unitOpen (hP : gc_Cl P) (hm : gc_Mo P) (hd : 1 ≤ d) (ho : o ≤ 6) (h : zC b n T L m nc s0 i W r o s) (hk : rk b n i = 6 ∨ rk b n i = 11 ∨ rk b n i = 29)
    (h6 : ∀ t, rk b n i = 6 → i < 400 → o < 6 → zC b n T L m nc s0 (i + 1) W r (o + 1) t → gc_T P (d - 1) 0 0 41 0 [.ref 9, gc_u] [] t (kQ Q))
    (h11 : ∀ t, rk b n i = 11 → i < 400 → o < 6 → zC b n T L m nc s0 (i + 1) W r (o + 1) t → gc_T P (d - 1) 0 0 42 0 [.ref 9, gc_u, gc_u] [] t (kQ Q))
    (h29 : ∀ t, rk b n i = 29 → i < 400 → o < 6 → zC b n T L m nc s0 (i + 1) W r (o + 1) t → gc_T P (d - 1) 0 0 43 0 [.ref 9, gc_u] [] t (kQ Q))
    (h2 : ∀ t, i = 400 ∨ o = 6 → zFC L s0 2 (tk_st b n i) t → Q (some (.int (-1))) t) : gc_T P d 0 0 40 0 [.ref 9, gc_u, gc_u, gc_u] [] s Q := by
  have q219 : ∀ {l1 l2 : Int32} (r' : Option Value) (u : gc_St), kQ Q r' u → gc_ri r' fun x12 => gc_T P d 0 0 40 219 [.ref 9, .int l1, .int l2, gc_u] [.int x12] u Q := fun r' u hu => gc_ri_m (fun x hx => b_X3_unit_219 hP hm hx) hu
  -- what follows the word
  have go : ∀ (c k : Int32), kk c k → rk b n i = k → (c = 40 ∨ c = 91 ∨ c = 309) → (∀ t, i < 400 → o < 6 → zC b n T L m nc s0 (i + 1) W r o t → gc_T P d 0 0 40 117 [.ref 9, .int c, .int 1, gc_u] [] t Q) → gc_T P d 0 0 40 74 [.ref 9, .int c, .int 1, gc_u] [] s Q := by
    intro c k hck e _ hgo
    refine b_X3_unit_74 hP hm ⟨hd, z_take hP hm hck e h (fun t t1 t2 _ _ => ⟨fun _ => ⟨fun z => absurd z (by decide), fun _ => ?_⟩, fun z => absurd z (by decide)⟩) (fun t t1 t2 => ⟨fun z => absurd rfl z, fun _ => h2 t (Or.inl t1) t2⟩)⟩
    have h9 : gc_F t 9 2 = nI o := t2.2.2.2.2.2.1.2.2
    rw [h9]
    by_cases ho6 : o < 6
    · exact ⟨fun _ => hgo t t1 ho6 t2, fun z => absurd (nI_lt (b := 6) ho6 (by decide)) z⟩
    · refine ⟨fun z => absurd z (nI_nlt (b := 6) (by omega) (by omega)), fun _ => ⟨hd, ?_⟩⟩
      rw [t2.2.1 (by omega), Nat.add_sub_cancel]
      exact z_blame hP hm (x := 2) (by decide) t2.2.2.1 fun u u1 => h2 u (Or.inr (by omega)) u1
  have st : ∀ t, zC b n T L m nc s0 (i + 1) W r o t → gc_wF t 9 2 ((gc_F t 9 2) + 1) = gc_wF t 9 2 (nI (o + 1)) := fun t ht => by
    rw [show gc_F t 9 2 = nI o from ht.2.2.2.2.2.1.2.2, nI_1]
  refine b_X3_unit_0 hP hm ⟨by omega, sp_kindAhead hP hm h.1 ?_⟩
  rcases hk with e | e | e
  · have hc : ck b n i = 40 := (kc_6 _).mpr e
    rw [hc]
    refine ⟨fun z => absurd z (by decide), fun _ => ⟨fun z => absurd z (by decide), fun _ => ⟨fun z => absurd rfl z, fun _ => b_X3_unit_27 hP hm (b_X3_unit_32 hP hm ⟨fun _ => go 40 6 kk_open e (Or.inl rfl) fun t t1 t2 t3 => ?_, fun z => absurd z (by decide)⟩)⟩⟩⟩
    refine b_X3_unit_117 hP hm ⟨fun z => absurd z (by decide), fun _ => ⟨fun z => absurd z (by decide), fun _ => ⟨fun z => absurd z (by decide), fun _ => ⟨fun z => absurd rfl z, fun _ => ⟨by omega, ?_⟩⟩⟩⟩⟩
    rw [st t t3]
    exact gc_tm hm q219 (h6 _ e t1 t2 (zC_o t3))
  · have hc : ck b n i = 91 := (kc_11 _).mpr e
    rw [hc]
    refine ⟨fun z => absurd z (by decide), fun _ => ⟨fun _ => b_X3_unit_27 hP hm (b_X3_unit_32 hP hm ⟨fun _ => go 91 11 kk_from e (Or.inr (Or.inl rfl)) fun t t1 t2 t3 => ?_, fun z => absurd z (by decide)⟩), fun z => absurd rfl z⟩⟩
    refine b_X3_unit_117 hP hm ⟨fun z => absurd z (by decide), fun _ => ⟨fun z => absurd z (by decide), fun _ => ⟨fun z => absurd z (by decide), fun _ => ⟨fun _ => ⟨fun z => absurd rfl z, fun _ => ⟨by omega, ?_⟩⟩, fun z => absurd z (by decide)⟩⟩⟩⟩
    rw [st t t3]
    exact gc_tm hm q219 (h11 _ e t1 t2 (zC_o t3))
  · have hc : ck b n i = 309 := (kc_29 _).mpr e
    rw [hc]
    refine ⟨fun _ => b_X3_unit_27 hP hm (b_X3_unit_32 hP hm ⟨fun _ => go 309 29 kk_ever e (Or.inr (Or.inr rfl)) fun t t1 t2 t3 => ?_, fun z => absurd z (by decide)⟩), fun z => absurd rfl z⟩
    refine b_X3_unit_117 hP hm ⟨fun z => absurd z (by decide), fun _ => ⟨fun z => absurd z (by decide), fun _ => ⟨fun z => absurd z (by decide), fun _ => ⟨fun _ => ⟨fun _ => ⟨by omega, ?_⟩, fun z => absurd z (by decide)⟩, fun z => absurd z (by decide)⟩⟩⟩⟩
    rw [st t t3]
    exact gc_tm hm q219 (h29 _ e t1 t2 (zC_o t3))
theorem kQ_ok {i2 : Nat} {W2 : ld_W} {r2 : Option (Nat × Nat)} {x : Int32} {t : gc_St} (h : zC b n T L m nc s0 i2 W2 r2 (o + 1) t) (hQ : ∀ u, zC b n T L m nc s0 i2 W2 r2 o u → Q (some (.int x)) u) : kQ Q (some (.int x)) t := by
  show Q (some (.int x)) (gc_wF t 9 2 ((gc_F t 9 2) - 1))
  rw [show gc_F t 9 2 = nI (o + 1) from h.2.2.2.2.2.1.2.2, nI_pred]
  exact hQ _ (zC_o h)
theorem kQ_f {x p : Nat} {t : gc_St} (h : zFC L s0 x p t) (hQ : ∀ u, zFC L s0 x p u → Q (some (.int (-1))) u) : kQ Q (some (.int (-1))) t := hQ _ (zFC_o h)
end Lc
section Lu
variable {b : Nat → Nat} {n Tc Tr L sd mc mr : Nat} {nc nr : List (List Nat × Nat × Nat)} {i o : Nat} {W : ld_W} {r : Option (Nat × Nat)}
theorem uX_leaf (hn : n ≤ 2000) (hlt : ∀ j, b j < 256) (hG : ∀ w, gdC nc w = gd nr w) (hg : ∀ w g, gd nr w = some g → g < ld_g W) (hp24 : ld_p W ≤ 24) (ho : o ≤ 6) (hr : ∀ w, r = some w → w.2 < tk_st b n i) {kd : Nat} (hk : (rk b n i = 1 ∧ kd = 0) ∨ (rk b n i = 26 ∧ kd = 1) ∨ (rk b n i = 27 ∧ kd = 2)) : uX b n Tc Tr L sd mc mr nc nr i W r o := by
  have hk0 : rk b n i ≠ 0 := by
    rcases hk with ⟨e, _⟩ | ⟨e, _⟩ | ⟨e, _⟩ <;> rw [e] <;> decide
  have hno : rk b n i ≠ 6 ∧ rk b n i ≠ 11 ∧ rk b n i ≠ 29 := by
    rcases hk with ⟨e, _⟩ | ⟨e, _⟩ | ⟨e, _⟩ <;> rw [e] <;> decide
  have hst := rk_n hk0
  obtain ⟨l1, l2, l3⟩ := lfN_in (nr := nr) (b := b) (n := n) (i := i) hg (tk_st_S hst) hr
  by_cases hf : i = 400 ∨ ld_p W = 24
  · refine ⟨.inl (2, tk_st b n i), trivial, fun P d s s0 Q hP hm hd h hQ => z_unitLeaf hP hm (by omega) hlt hG hp24 hk h (fun t t1 t2 => by omega) (fun t _ t1 => hQ t t1), fun P d s s0 Q S R hP hm hd h hs hl hQ => ?_⟩
    have h400 := zR_i h
    exact H_leaf hP hm (by omega) h hno (y_leaf hP hm (by omega) hn hlt hp24 hk h hs (by omega) hr (fun t t1 t2 => by omega) (fun t _ t1 => ⟨fun _ => b_X11_pointsOf_90 hP hm (b_X11_pointsOf_91 hP hm (f_23 hP hm t1 (hQ t t1))), fun z => absurd z (zFR_n t1).1⟩))
  · refine ⟨.inr (i + 1, np W kd (lfN nr b n i r).2 0 (ld_p W), (lfN nr b n i r).1), ⟨Nat.lt_succ_self _, ex_np, ?_, ?_, l2, fun z p p1 p2 => ?_, l3⟩, fun P d s s0 Q hP hm hd h hQ => z_unitLeaf hP hm (by omega) hlt hG hp24 hk h (fun t t1 t2 t3 => ?_) (fun t t1 => absurd t1 hf), fun P d s s0 Q S R hP hm hd h hs hl hQ => ?_⟩
    · show ld_p W < ld_p (np W kd (lfN nr b n i r).2 0 (ld_p W)) ∧ ld_p (np W kd (lfN nr b n i r).2 0 (ld_p W)) ≤ 24
      rw [np_p]
      omega
    · show ld_lo (np W kd (lfN nr b n i r).2 0 (ld_p W)) (ld_p (np W kd (lfN nr b n i r).2 0 (ld_p W)) - 1) = ld_p W
      rw [np_p, Nat.add_sub_cancel, np_10]
    · have p2' : p < ld_p (np W kd (lfN nr b n i r).2 0 (ld_p W)) := p2
      rw [np_p] at p2'
      obtain rfl : p = ld_p W := by omega
      show ld_pt (np W kd (lfN nr b n i r).2 0 (ld_p W)) (ld_p W)
      unfold ld_pt
      rw [np_7, np_8, np_10]
      refine Or.inl ⟨by omega, rfl, fun k0 => ?_⟩
      show _ < np W kd (lfN nr b n i r).2 0 (ld_p W) 0 0
      rw [np_c (by decide)]
      rcases hk with ⟨e, _⟩ | ⟨_, e⟩ | ⟨_, e⟩
      · exact l1 e z
      · omega
      · omega
    · have := hQ t t3
      have e : ld_p (np W kd (lfN nr b n i r).2 0 (ld_p W)) - 1 = ld_p W := by rw [np_p, Nat.add_sub_cancel]
      rw [e] at this
      exact this
    · have h400 := zR_i h
      refine H_leaf hP hm (by omega) h hno (y_leaf hP hm (by omega) hn hlt hp24 hk h hs (by omega) hr (fun t t1 t2 t3 t4 => ?_) (fun t t1 => absurd t1 hf))
      refine ⟨fun z => absurd t3.2.2.1.1 z, fun _ => ⟨by omega, b_X11_goesBeyond_0 hP hm ⟨fun z => absurd t3.2.2.1.1 z, fun _ => ?_⟩⟩⟩
      have e : ld_p (np W kd (lfN nr b n i r).2 0 (ld_p W)) - 1 = ld_p W := by rw [np_p, Nat.add_sub_cancel]
      have hQ' := hQ t t3
      rw [e] at hQ'
      exact hQ' t4 _ _
theorem uX_bad (hk : rk b n i ≠ 1 ∧ rk b n i ≠ 26 ∧ rk b n i ≠ 27 ∧ rk b n i ≠ 6 ∧ rk b n i ≠ 11 ∧ rk b n i ≠ 29) (ho : o ≤ 6) : uX b n Tc Tr L sd mc mr nc nr i W r o := by
  refine ⟨.inl (1, tk_st b n i), trivial, fun P d s s0 Q hP hm hd h hQ => z_unitBad hP hm (by omega) h hk hQ, fun P d s s0 Q S R hP hm hd h hs hl hQ => ?_⟩
  exact H_leaf hP hm (by omega) h hk.2.2.2 (y_leaf0 hP hm (by omega) h ⟨hk.1, hk.2.1, hk.2.2.1⟩ (fun t t1 => ⟨fun _ => b_X11_pointsOf_90 hP hm (b_X11_pointsOf_91 hP hm (f_23 hP hm t1 (hQ t t1))), fun z => absurd z (zFR_n t1).1⟩))
theorem uX_full (hk : rk b n i = 6 ∨ rk b n i = 11 ∨ rk b n i = 29) (ho : o ≤ 6) (hf : i = 400 ∨ o = 6) : uX b n Tc Tr L sd mc mr nc nr i W r o := by
  refine ⟨.inl (2, tk_st b n i), trivial, fun P d s s0 Q hP hm hd h hQ => z_unitOpen hP hm (by omega) ho h hk (fun t _ t1 t2 => by omega) (fun t _ t1 t2 => by omega) (fun t _ t1 t2 => by omega) (fun t _ t1 => hQ t t1), fun P d s s0 Q S R hP hm hd h hs hl hQ => ?_⟩
  have h400 := zR_i h
  refine H_open hP hm (by omega) h hk ?_
  have fin : ∀ t, zFR sd s0 2 (tk_st b n i) t → (gc_T P d 0 0 206 23 [.ref 67, .int 1] [] t Q) := fun t t1 => f_23 hP hm t1 (hQ t t1)
  by_cases ho6 : o = 6
  · rw [ho6] at h
    exact y_open6 hP hm (by omega) h fin
  · rcases hk with e | e | e
    · exact y_open1 hP hm (by omega) h hs (by omega) (by omega) (Or.inl e) (fun t t1 => by omega) (fun t _ t1 => fin t t1)
    · refine y_open2 (res := .inl (0, 0)) hP hm (by omega) h hs (by omega) (by omega) e (fun P d u s0 Q' o' _ _ _ z => ?_) (fun t e' y y1 y2 => by omega) (fun t x p t1 t2 => ?_)
      · have := zR_i z
        omega
      · rcases t2 with ⟨_, x1, x2⟩ | ⟨x1, _⟩ | ⟨x1, _⟩
        · rw [x1, x2] at t1
          exact fin t t1
        · omega
        · omega
    · exact y_open1 hP hm (by omega) h hs (by omega) (by omega) (Or.inr e) (fun t t1 => by omega) (fun t _ t1 => fin t t1)
end Lu
