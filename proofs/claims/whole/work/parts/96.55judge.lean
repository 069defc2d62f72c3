/-! judge: the calls. -/
def Ajc (q k : Nat) : Bool := AJ q k || ((Nat.beq q 1 && Nat.beq k 1) || (Nat.beq q 0 && Nat.beq k 12))
def Ajp (q k : Nat) : Bool := AJp q k || ((Nat.beq q 1 && Nat.beq k 1) || (Nat.beq q 0 && Nat.beq k 12))
def Bjc (a : Nat) : Bool := B47 a || BJ a
theorem Ajc_iff {q k : Nat} : Ajc q k = true ↔ (q = 3 ∨ (q = 28 ∧ 5 ≤ k ∧ k ≤ 15)) ∨ (q = 1 ∧ k = 1) ∨ (q = 0 ∧ k = 12) := by
  unfold Ajc
  simp only [Bool.or_eq_true, Bool.and_eq_true, Nat.beq_eq, AJ_iff]
theorem Ajp_iff {q k : Nat} : Ajp q k = true ↔ ((q = 3 ∨ (q = 28 ∧ 5 ≤ k ∧ k ≤ 15)) ∨ (q = 28 ∧ 16 ≤ k ∧ k ≤ 19)) ∨ (q = 1 ∧ k = 1) ∨ (q = 0 ∧ k = 12) := by
  unfold Ajp
  simp only [Bool.or_eq_true, Bool.and_eq_true, Nat.beq_eq, AJp_iff]
theorem Bjc_iff {a : Nat} : Bjc a = true ↔ (4 ≤ a ∧ a ≤ 7) ∨ (29 ≤ a ∧ a ≤ 31) := by
  unfold Bjc
  rw [Bool.or_eq_true, B47_iff, BJ_iff]
/-- only words were cut -/
theorem stC_cut {W : ld_W} {L : Nat} {nl : List (List Nat × Nat × Nat)} {s t : gc_St} (h : stC W L nl s) (g : fr A3 B47 s t) : stC W L nl t := by
  have hL := h.1.1
  have hFL : ∀ k, gc_F t L k = gc_F s L k := fun k => fr_F g (bf fun z => by
    have := A3_iff.mp z
    rcases hL with e | e <;> omega)
  have hr : ∀ j, j < 19 → gc_rS L j ≠ 4 ∧ gc_rS L j ≠ 5 ∧ gc_rS L j ≠ 6 ∧ gc_rS L j ≠ 7 := by
    have key : ∀ j, j < 19 → (gc_rS 11 j ≠ 4 ∧ gc_rS 11 j ≠ 5 ∧ gc_rS 11 j ≠ 6 ∧ gc_rS 11 j ≠ 7) ∧ (gc_rS 54 j ≠ 4 ∧ gc_rS 54 j ≠ 5 ∧ gc_rS 54 j ≠ 6 ∧ gc_rS 54 j ≠ 7) := by decide
    intro j hj
    rcases hL with rfl | rfl
    · exact (key j hj).1
    · exact (key j hj).2
  refine ⟨cl_C_fr h.1 g (fun k => ⟨bf fun z => by have := A3_iff.mp z; omega, bf fun z => by have := A3_iff.mp z; omega⟩) (fun a ha => bf fun z => by have := B47_iff.mp z; omega), nmC_of h.2.1 (hFL 6) ?_ ?_, fun k hk => ?_⟩
  · exact fr_J g (bf fun z => by have := B47_iff.mp z; have := hr 17 (by decide); omega)
  · exact fr_I g (bf fun z => by have := B47_iff.mp z; have := hr 18 (by decide); omega)
  · rw [fr_J g rfl]
    exact h.2.2 k hk
section Jc
variable {P : gc_Pr} {d : Nat} {s : gc_St} {Q : gc_TQ} {b : Nat → Nat} {n L lv o sk bs : Nat} {nl : List (List Nat × Nat × Nat)} {W : ld_W} {c : Int32} {res : Nat → gRes}
theorem sp_judgeC (hP : gc_Cl P) (hm : gc_Mo P) (hd : 10 ≤ d) (hX : ∀ k, k < ld_c W → jdX b n L lv W nl o sk bs (ld_ro W k) (res k)) (hs : stC W L nl s) (hn : n ≤ 2000) (hb : ∀ j, j < n → tk_b (gc_I s 2 j) = b j) (hlt : ∀ j, b j < 256) (hF : gc_F s 1 1 = nI n) (e0 : gc_F s 49 0 = nI sk) (e1 : gc_F s 49 1 = nI o) (e2 : gc_F s 49 2 = nI bs)
    (h0 : (∀ k, k < ld_c W → c ≠ nI k) → Q (some (.int (-1))) s)
    (h1 : ∀ k t e, k < ld_c W → c = nI k → res k = .inl e → fr Ajc Bjc s t → gc_F t 1 1 = 0 → gc_F t 0 12 = nI e.2 → 1 ≤ e.1 → e.1 < 9 → Q (some (.int (nI e.1))) t)
    (h2 : ∀ k t e, k < ld_c W → c = nI k → res k = .inr e → fr Ajp Bjc s t → gc_F t 1 1 = 0 → gc_F t 0 12 = -1 → psC (psE e) t → Q (some (.int 0)) t) : gc_T P d 0 0 125 0 [.ref 0, .int c, gc_u] [] s Q := by
  refine b_X10_judge_0 hP hm ⟨by omega, sp_root hP hm hs.1 (fun k hk hc => ⟨fun _ => ⟨by omega, ?_⟩, fun z => absurd z (nI_nm1 ?_)⟩) (fun z => ⟨fun y => absurd rfl y, fun _ => h0 z⟩)⟩
  · refine sp_scan hP hm (by omega) (Or.inl rfl) hn hb hlt hF hs.2.2 (fun t T t1 t2 t3 t4 => ⟨by omega, ?_⟩)
    obtain ⟨v11, v7, v12, v13, v8, v10, v14, v15, vln⟩ := t4
    have hjc : jc b n (TcN b n) L W nl t 0 t := ⟨⟨by rw [← TcN_eq t1]; exact t1, fun j hj => t3 j (by rw [TcN_eq t1]; exact hj), v7, by rw [← TcN_eq t1]; exact t1.1⟩, fun z => absurd z (by decide), fr_refl t, ⟨v11, v12, v14, v15⟩, stC_cut hs t2⟩
    have q49 : ∀ k, gc_F t 49 k = gc_F s 49 k := fun k => fr_F t2 rfl
    -- behind the judge
    have fin : ∀ (A : Nat → Nat → Bool) (w : gc_St) (x y : Int32), (∀ q k, A q k = true → A q k = true) → fr A BJ t w → ((gc_F w 3 12 = 0 → gc_F w 3 14 = x ∧ gc_F w 3 15 = y) ∧ (¬ gc_F w 3 12 = 0 → gc_F w 3 12 = x ∧ gc_F w 3 13 = y)) → Q (some (.int x)) (gc_wF (gc_wF w 1 1 0) 0 12 y) → 1 ≤ d ∧ gc_T P (d - 1) 0 0 111 0 [.ref 3] [] (gc_wF w 1 1 0) (fun r8 s9 => gc_ri r8 fun x10 => 1 ≤ d ∧ gc_T P (d - 1) 0 0 110 0 [.ref 3] [] (gc_wF s9 0 12 x10) (fun r11 s12 => gc_ri r11 fun x13 => Q (some (.int x13)) s12)) := by
      intro A w x y _ gw hw hQ
      have e3 : ∀ k, gc_F (gc_wF w 1 1 0) 3 k = gc_F w 3 k := fun k => F_ne _ _ (Or.inl (by decide))
      have e3' : ∀ k, gc_F (gc_wF (gc_wF w 1 1 0) 0 12 y) 3 k = gc_F w 3 k := fun k => (F_ne _ _ (Or.inl (by decide))).trans (e3 k)
      have go : gc_T P (d - 1) 0 0 110 0 [.ref 3] [] (gc_wF (gc_wF w 1 1 0) 0 12 y) (fun r11 s12 => gc_ri r11 fun x13 => Q (some (.int x13)) s12) := by
        refine b_X8_verdict_0 hP hm ⟨fun z => ?_, fun z => ?_⟩
        · rw [e3' 14, (hw.1 (by rw [← e3' 12]; exact z)).1]
          exact hQ
        · rw [e3' 12, (hw.2 (by rw [← e3' 12]; exact z)).1]
          exact hQ
      refine ⟨by omega, b_X8_verdictPlace_0 hP hm ⟨fun z => ?_, fun z => ?_⟩⟩
      · rw [e3 15, (hw.1 (by rw [← e3 12]; exact z)).2]
        exact ⟨by omega, go⟩
      · rw [e3 13, (hw.2 (by rw [← e3 12]; exact z)).2]
        exact ⟨by omega, go⟩
    have f11 : ∀ (w : gc_St) (y : Int32), gc_F (gc_wF (gc_wF w 1 1 0) 0 12 y) 1 1 = 0 := fun w y => (F_ne _ _ (Or.inl (by decide))).trans (F_eq _ _ _ _)
    refine (hX k hk).1 P (d - 1) t t _ hP hm (by omega) hjc ((q49 0).trans e0) ((q49 1).trans e1) ((q49 2).trans e2) (fun e he w w1 => ?_) (fun e he w w1 w2 w3 => ?_)
    · have hne : ¬ nI e.1 = 0 := nI_ne0 w1.2.2.1 (by have := w1.2.2.2; omega)
      refine fin AJ w (nI e.1) (nI e.2) (fun _ _ z => z) w1.1 ⟨fun z => absurd (w1.2.1.1.symm.trans z) hne, fun _ => w1.2.1⟩ (h1 k _ e hk hc he ?_ (f11 _ _) (F_eq _ _ _ _) w1.2.2.1 w1.2.2.2)
      refine fr_wF (Ajc_iff.mpr (Or.inr (Or.inr ⟨rfl, rfl⟩))) (fr_wF (Ajc_iff.mpr (Or.inr (Or.inl ⟨rfl, rfl⟩))) (fr_trans (fr_up t2 (fun q k z => Ajc_iff.mpr (Or.inl (Or.inl (A3_iff.mp z)))) (fun a z => Bjc_iff.mpr (Or.inl (B47_iff.mp z)))) (fr_up w1.1 (fun q k z => Ajc_iff.mpr (Or.inl (AJ_iff.mp z))) (fun a z => Bjc_iff.mpr (Or.inr (BJ_iff.mp z))))))
    · refine fin AJp w 0 (-1) (fun _ _ z => z) w1 ⟨fun _ => ⟨w3.2.1, w3.2.2⟩, fun z => absurd w3.1 z⟩ (h2 k _ e hk hc he ?_ (f11 _ _) (F_eq _ _ _ _) ?_)
      · refine fr_wF (Ajp_iff.mpr (Or.inr (Or.inr ⟨rfl, rfl⟩))) (fr_wF (Ajp_iff.mpr (Or.inr (Or.inl ⟨rfl, rfl⟩))) (fr_trans (fr_up t2 (fun q k z => Ajp_iff.mpr (Or.inl (Or.inl (Or.inl (A3_iff.mp z))))) (fun a z => Bjc_iff.mpr (Or.inl (B47_iff.mp z)))) (fr_up w1 (fun q k z => Ajp_iff.mpr (Or.inl (AJp_iff.mp z))) (fun a z => Bjc_iff.mpr (Or.inr (BJ_iff.mp z))))))
      · unfold psC at w2 ⊢
        have f28 : ∀ k, gc_F (gc_wF (gc_wF w 1 1 0) 0 12 (-1)) 28 k = gc_F w 28 k := fun k => (F_ne _ _ (Or.inl (by decide))).trans (F_ne _ _ (Or.inl (by decide)))
        rw [f28 16, f28 17, f28 18, f28 19]
        exact w2
  · have := (hs.1.2.2.2.1.2.2.2.1 k hk).1
    have := hs.1.2.2.2.1.1.2.2.2.2
    omega
end Jc
/-! the reference -/
def Akf (q k : Nat) : Bool := AKq q k || (Abg q k || Nat.beq q 67 && Nat.beq k 43)
def Akp (q k : Nat) : Bool := AKp q k || (Abg q k || Nat.beq q 67 && Nat.beq k 43)
def Bkf (a : Nat) : Bool := Bbg a || BK a
section Jr
variable {P : gc_Pr} {d : Nat} {s : gc_St} {Q : gc_TQ} {b : Nat → Nat} {n L lv o sk bs : Nat} {nl : List (List Nat × Nat × Nat)} {W : ld_W} {c : Int32} {res : Nat → gRes}
theorem sp_judgeR (hP : gc_Cl P) (hm : gc_Mo P) (hd : 10 ≤ d) (hX : ∀ k, k < ld_c W → jdX b n L lv W nl o sk bs (ld_ro W k) (res k)) (hs : stR W lv nl o s) (hn : n ≤ 2000) (hF : gc_F s 67 3 = nI n) (hby : ∀ j, j < n → vp_nar .byte (gc_I s 69 j) = gc_I s 69 j) (hb : ∀ j, j < n → tk_b (gc_I s 69 j) = b j) (hb2 : ∀ j, n ≤ j → tk_b (gc_I s 70 j) = b j) (hJ : ∀ k, k < 10 → gc_J s 75 k = lN (k27 k)) (e0 : gc_F s 67 49 = nI sk) (e2 : gc_F s 67 51 = nI bs)
    (h0 : (∀ k, k < ld_c W → c ≠ nI k) → Q (some (.int (-1))) s)
    (h1 : ∀ k t e, k < ld_c W → c = nI k → res k = .inl e → fr Akf Bkf s t → gc_F t 67 3 = 0 → gc_F t 67 18 = nI e.2 → 1 ≤ e.1 → e.1 < 9 → Q (some (.int (nI e.1))) t)
    (h2 : ∀ k t e, k < ld_c W → c = nI k → res k = .inr e → fr Akp Bkf s t → gc_F t 67 3 = 0 → gc_F t 67 18 = -1 → psR (psE e) t → Q (some (.int 0)) t) : gc_T P d 0 0 260 0 [.ref 67, .int c] [] s Q := by
  refine b_X11_judge_0 hP hm ⟨by omega, sp_isClaim hP hm (by omega) hs.1 (fun k hk hc => ⟨fun _ => ⟨by omega, y_begins hP hm (by omega) hn hF hby hb hb2 hJ fun t t1 t2 t3 => ⟨by omega, ?_⟩⟩, fun z => absurd z (by decide)⟩) (fun z => ⟨fun y => absurd rfl y, fun _ => h0 z⟩)⟩
  have hS : ∀ u, u = gc_wF (gc_wF (gc_wF (gc_wF (gc_wF (gc_wF t 67 43 1) 67 64 0) 67 65 0) 67 66 0) 67 67 0) 67 73 0 → fr (fun q k => Nat.beq q 67 && (Nat.beq k 43 || (Nat.beq k 73 || (Nat.ble 64 k && Nat.ble k 67)))) B0 t u ∧ kA b n (TrN b n) lv W nl o u 0 [] [] 0 0 0 u ∧ gc_F u 67 49 = nI sk ∧ gc_F u 67 51 = nI bs ∧ gc_F u 67 3 = 0 := by
    intro u e
    have g : fr (fun q k => Nat.beq q 67 && (Nat.beq k 43 || (Nat.beq k 73 || (Nat.ble 64 k && Nat.ble k 67)))) B0 t u := by
      rw [e]
      exact fr_wF rfl (fr_wF rfl (fr_wF rfl (fr_wF rfl (fr_wF rfl (fr_wF rfl (fr_refl t))))))
    have hsu : stR W lv nl o u := by
      obtain ⟨a1, a2, a3, a4, a5⟩ := hs
      have gI : ∀ a, ¬ (70 ≤ a ∧ a ≤ 74) → gc_I u a = gc_I s a := fun a ha => (fr_I g rfl).trans (fr_I t2 (bf fun z => ha (Bbg_iff.mp z)))
      have gJ : ∀ a, ¬ (70 ≤ a ∧ a ≤ 74) → gc_J u a = gc_J s a := fun a ha => (fr_J g rfl).trans (fr_J t2 (bf fun z => ha (Bbg_iff.mp z)))
      refine ⟨rf_law_of a1 ((fr_F g rfl).trans (fr_F t2 rfl)) (fun a ha => gI a (fun z => by
        unfold rfB at ha
        simp only [Bool.and_eq_true, Nat.ble_eq] at ha
        omega)), nmR_of a2 (gJ 76 (by decide)) (gI 77 (by decide)) (gI 78 (by decide)), by rw [gI 79 (by decide)]; exact a3, ((fr_F g rfl).trans (fr_F t2 rfl)).trans a4, fun k hk => by rw [gJ 68 (by decide)]; exact a5 k hk⟩
    have h73 : gc_F u 67 73 = nI 0 := by
      rw [e, F_eq]
      rfl
    refine ⟨g, ⟨⟨rpw_fr t1 g rfl (fun a _ _ => rfl), ⟨fr_refl u, 0, by decide, h73⟩, ⟨(fr_F g rfl).trans t3.2.2.1, ?_⟩, hsu⟩, ⟨?_, fun k x hk => absurd hk (by simp)⟩, ⟨h73, fun k x hk => absurd hk (by simp)⟩, ?_, ?_, ?_⟩, ((fr_F g rfl).trans (fr_F t2 rfl)).trans e0, ((fr_F g rfl).trans (fr_F t2 rfl)).trans e2, (fr_F g rfl).trans t3.1⟩
    · rw [e, F_ne _ _ (Or.inr (by decide)), F_ne _ _ (Or.inr (by decide)), F_ne _ _ (Or.inr (by decide)), F_ne _ _ (Or.inr (by decide)), F_ne _ _ (Or.inr (by decide)), F_eq]
    · rw [e, F_ne _ _ (Or.inr (by decide)), F_ne _ _ (Or.inr (by decide)), F_ne _ _ (Or.inr (by decide)), F_ne _ _ (Or.inr (by decide)), F_eq]
      rfl
    · rw [e, F_ne _ _ (Or.inr (by decide)), F_ne _ _ (Or.inr (by decide)), F_ne _ _ (Or.inr (by decide)), F_eq]
      rfl
    · rw [e, F_ne _ _ (Or.inr (by decide)), F_ne _ _ (Or.inr (by decide)), F_eq]
      rfl
    · rw [e, F_ne _ _ (Or.inr (by decide)), F_eq]
      rfl
  have hS0 := hS _ rfl
  revert hS0
  generalize gc_wF (gc_wF (gc_wF (gc_wF (gc_wF (gc_wF t 67 43 1) 67 64 0) 67 65 0) 67 66 0) 67 67 0) 67 73 0 = u
  intro ⟨gu, hu, u49, u51, u3⟩
  obtain ⟨⟨hlv, h19, hok⟩, _, _, _, _, hcl, _⟩ := hu.1.2.2.2.1
  have hc6 := hok.1.2.2.2.1
  refine b_X11_claimPlace_0 hP hm ?_
  rw [h19, hc, st_lit 6, pk_mul, nI_add, nI_clamp (by omega), (hcl k hk).2, u49, u51]
  refine ⟨vp_in_nI (by omega) (by decide), by omega, sp_spot hP hm ⟨by omega, ?_⟩⟩
  refine k_needs hP hm (l := 1) hu (by decide) fun v v1 => ?_
  have gf : ∀ (A : Nat → Nat → Bool) (w : gc_St), (∀ q k, Abg q k = true → A q k = true) → (∀ q k, q = 67 → k = 43 ∨ k = 73 ∨ (64 ≤ k ∧ k ≤ 67) → A q k = true) → fr A Bkf u w → fr A Bkf s w := fun A w h1 h2 g => fr_trans (fr_up t2 h1 (fun a z => by unfold Bkf; rw [Bool.or_eq_true]; exact Or.inl z)) (fr_trans (fr_up gu (fun q k z => by
    simp only [Bool.and_eq_true, Bool.or_eq_true, Nat.beq_eq, Nat.ble_eq] at z
    exact h2 q k z.1 z.2) (fun a z => (B0_f z).elim)) g)
  have upB : ∀ a, BK a = true → Bkf a = true := fun a z => by unfold Bkf; rw [Bool.or_eq_true]; exact Or.inr z
  refine (hX k hk).2 P d v u Q _ hP hm (by omega) v1 (fun e he w w1 w2 w3 w4 => h1 k w e hk hc he ?_ ?_ w2 w3 w4) (fun e he w w1 w2 w3 => h2 k w e hk hc he ?_ ?_ w2 w3)
  · refine gf Akf w (fun q k z => by unfold Akf; rw [z]; simp) (fun q k z1 z2 => ?_) (fr_up w1 (fun q k z => by unfold Akf; rw [z]; rfl) upB)
    unfold Akf
    simp only [Bool.or_eq_true, Bool.and_eq_true, Nat.beq_eq, AKq_iff]
    omega
  · exact (fr_F w1 rfl).trans u3
  · refine gf Akp w (fun q k z => by unfold Akp; rw [z]; simp) (fun q k z1 z2 => ?_) (fr_up w1 (fun q k z => by unfold Akp; rw [z]; rfl) upB)
    unfold Akp
    simp only [Bool.or_eq_true, Bool.and_eq_true, Nat.beq_eq, AKp_iff]
    omega
  · exact (fr_F w1 rfl).trans u3
end Jr
