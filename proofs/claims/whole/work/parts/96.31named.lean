/-! A TELL begins; numbers; its NAME is noted: the reference. -/
def AzU (q k : Nat) : Bool := Nat.beq q 67 && (Nat.ble 12 k && Nat.ble k 17 || (Nat.beq k 21 || (Nat.beq k 46 || Nat.beq k 48)))
def BzU (a : Nat) : Bool := Nat.ble 76 a && Nat.ble a 78 || Nat.ble 80 a && Nat.ble a 99
theorem AzU_iff {q k : Nat} : AzU q k = true ↔ q = 67 ∧ ((12 ≤ k ∧ k ≤ 17) ∨ k = 21 ∨ k = 46 ∨ k = 48) := by
  unfold AzU
  rw [Bool.and_eq_true, Bool.or_eq_true, Bool.or_eq_true, Bool.or_eq_true, Bool.and_eq_true, Nat.beq_eq, Nat.beq_eq, Nat.beq_eq, Nat.beq_eq, Nat.ble_eq, Nat.ble_eq]
theorem BzU_iff {a : Nat} : BzU a = true ↔ (76 ≤ a ∧ a ≤ 78) ∨ (80 ≤ a ∧ a ≤ 99) := by
  unfold BzU
  rw [Bool.or_eq_true, Bool.and_eq_true, Bool.and_eq_true, Nat.ble_eq, Nat.ble_eq, Nat.ble_eq, Nat.ble_eq]
theorem kp_refl {lv : Nat} (s : gc_St) : kpR lv s s := fun _ _ _ => ⟨rfl, rfl⟩
theorem kp_trans {lv : Nat} {s t u : gc_St} (h : kpR lv s t) (g : kpR lv t u) : kpR lv s u := fun a k hk => ⟨(g a k hk).1.trans (h a k hk).1, (g a k hk).2.trans (h a k hk).2⟩
/-- what reading a text may change, in the reference -/
def frR (sd : Nat) (s t : gc_St) : Prop := fr AzU BzU s t ∧ kpR (1 - sd) s t
theorem frR_of {sd : Nat} {s t : gc_St} (h : fr AzR BzR s t) (g : kpR (1 - sd) s t) : frR sd s t := ⟨fr_up h (fun q k z => AzU_iff.mpr (by have := AzR_iff.mp z; omega)) (fun a z => BzU_iff.mpr (by have := BzR_iff.mp z; omega)), g⟩
theorem frR_trans {sd : Nat} {s t u : gc_St} (h : frR sd s t) (g : frR sd t u) : frR sd s u := ⟨fr_trans h.1 g.1, kp_trans h.2 g.2⟩
def zH (sd : Nat) (S0 : gc_St) (x p : Nat) (t : gc_St) : Prop := frR sd S0 t ∧ mbl t (nI x) (nI p) ∧ (1 ≤ x ∧ x < 9) ∧ vp_in (gc_F t 67 12) 403
def zU (b : Nat → Nat) (n T sd m : Nat) (nl : List (List Nat × Nat × Nat)) (S0 : gc_St) (i : Nat) (W : ld_W) (r : Option (Nat × Nat)) (s : gc_St) : Prop := frR sd S0 s ∧ zR b n T sd m nl s i W r 0 s
theorem zH_n {sd x p : Nat} {s0 t : gc_St} (h : zH sd s0 x p t) : ¬ gc_F t 67 14 = 0 ∧ ¬ gc_F t 67 14 ≤ 0 ∧ 0 < gc_F t 67 14 := by
  rw [h.2.1.1]
  have h1 := h.2.2.1.1
  have h2 := h.2.2.1.2
  exact ⟨nI_ne0 h1 (by omega), nI_nle h1 (by omega), nI_lt (a := 0) h1 (by omega)⟩
section Nu
variable {P : gc_Pr} {d : Nat} {s s0 S0 : gc_St} {Q : gc_TQ} {b : Nat → Nat} {n T sd m i o : Nat} {nl : List (List Nat × Nat × Nat)} {W W' : ld_W} {r : Option (Nat × Nat)}
theorem zR_re (h : zR b n T sd m nl s0 i W r o s) : zR b n T sd m nl s i W r o s := ⟨h.1, ⟨fr_refl s, kp_refl s⟩, h.2.2⟩
theorem zU_of {t : gc_St} (h : frR sd S0 s) (g : zR b n T sd m nl s i W r 0 t) : zU b n T sd m nl S0 i W r t := ⟨frR_trans h (frR_of g.2.1.1 g.2.1.2), zR_re g⟩
theorem zH_of {x p : Nat} {t : gc_St} (h : frR sd S0 s) (g : zFR sd s x p t) : zH sd S0 x p t := ⟨frR_trans h (frR_of g.1.1 g.1.2), g.2⟩
/-- a cell of this side written, with a fault -/
theorem zH_wI {x p a j k' : Nat} {y : Int32} (hs : sd < 2) (h : zH sd S0 x p s) (ha : BzU a = true) (hk : k' < wid a) (hj : j = wid a * sd + k') : zH sd S0 x p (gc_wI s a j y) :=
  ⟨⟨fr_wI ha h.1.1, kp_wI' hs h.1.2 hk hj⟩, h.2.1, h.2.2⟩
theorem y_named (hP : gc_Cl P) (hm : gc_Mo P) (hd : 3 ≤ d) (hn : n ≤ 2000) (hlt : ∀ j, b j < 256) (h : zR b n T sd m nl s0 i W r o s) (hr : ∀ w, r = some w → w.2 < tk_st b n i) (h1 : ∀ t, rk b n i = 1 → i < 400 → zR b n T sd m nl s0 (i + 1) W (twN nl b n i r) o t → Q (some (.int (nI i))) t) (h2 : ∀ t x, zFR sd s0 x (tk_st b n i) t → (rk b n i = 1 ∧ i = 400 ∧ x = 2) ∨ (rk b n i ≠ 1 ∧ x = 1) → Q (some (.int (nI i))) t) : gc_T P d 0 0 194 0 [.ref 67, gc_u, gc_u] [] s Q := by
  have h400 := zR_i h
  have bad : ∀ t x, zFR sd s0 x (tk_st b n i) t → (rk b n i = 1 ∧ i = 400 ∧ x = 2) ∨ (rk b n i ≠ 1 ∧ x = 1) → ∀ l2, gc_T P d 0 0 194 18 [.ref 67, .int (nI i), .int l2] [] t Q := fun t x t1 t2 l2 =>
    b_X11_named_18 hP hm ⟨fun _ => h2 t x t1 t2, fun _ => ⟨fun _ => h2 t x t1 t2, fun z => absurd z (zFR_n t1).1⟩⟩
  refine b_X11_named_0 hP hm ?_
  rw [h.1.2.2.1]
  refine ⟨by omega, y_must hP hm (by omega) (by decide) h (fun t e t1 t2 t3 => ?_) (fun t e t1 t2 _ => bad t 2 t2 (Or.inl ⟨e, t1, rfl⟩) _) (fun t e t2 _ => bad t 1 t2 (Or.inr ⟨e, rfl⟩) _)⟩
  have hw := wdi_ok hlt (Or.inl e)
  have hst := rk_n (i := i) (b := b) (n := n) (by rw [e]; decide)
  obtain ⟨nx, g9, g10, g11, g12, g14⟩ := t2.2.2.2.2.2.2.1
  have hsd : sd < 2 := t2.2.2.2.1.1
  rw [t2.2.2.2.1.2.1, st_lit 16, pk_mul]
  have hii : i < T := h.1.2.2.2
  have key : ∀ (l : List (List Nat × Nat × Nat)) k rr u, k ≤ nx.length → nx.drop k = l → (rr = r ∨ rr = sf r 3 (tk_st b n i)) → zR b n T sd m nl s0 (i + 1) W rr o u → nmR nx sd u → gc_F u 67 21 = nI (16 * sd + nx.length) → (∀ v, zR b n T sd m nl s0 (i + 1) W (if l.any (fun e => e.1 == wdi b n i) = true then sf r 3 (tk_st b n i) else rr) o v → Q (some (.int (nI i))) v) → gc_T P d 0 0 194 18 [.ref 67, .int (nI i), .int (nI (16 * sd + k))] [] u Q := by
    intro l
    induction l with
    | nil =>
      intro k rr u hkl hk hrr hu hnm h21 hQ
      have hle : nx.length ≤ k := List.drop_eq_nil_iff.mp hk
      have : nx.length ≤ 16 := hnm.2.1
      refine b_X11_named_18 hP hm ?_
      rw [h21]
      exact pk_le (16 * sd + nx.length) (16 * sd + k) (fun _ => hQ u hu) (fun z => by omega)
    | cons x l ih =>
      intro k rr u hkl hk hrr hu hnm h21 hQ
      have h16 : nx.length ≤ 16 := hnm.2.1
      have hk0 : nx[k]? = some x := by
        have := congrArg (fun y => y[0]?) hk
        simpa [List.getElem?_drop] using this
      have hk1 : nx.drop (k + 1) = l := by
        have : (nx.drop k).drop 1 = l := by rw [hk]; rfl
        rw [List.drop_drop] at this
        exact this
      have hlt' : k < nx.length := (List.getElem?_eq_some_iff.mp hk0).1
      obtain ⟨e1, e2, e3, e4⟩ := hnm.2.2 k x hk0
      refine b_X11_named_18 hP hm ?_
      rw [h21, hu.2.2.1.1, nI_clamp (by omega), nI_clamp (by omega), e2, nmR_at hu.1 hii (Or.inl e), lg_cmp0, lN_eq40 (wnum_lt (by decide) (by decide) e1) (wnum_lt (by decide) (by decide) hw), wnum_inj (by decide) e1 hw]
      refine pk_le (16 * sd + nx.length) (16 * sd + k) (fun z => by omega) (fun _ => ⟨fun z => absurd rfl z, fun _ => ⟨vp_in_nI (by omega) (by decide), vp_in_nI (by omega) (by decide), fun z => b_X11_named_55 hP hm ?_, fun z => ⟨by omega, ?_⟩⟩⟩)
      · rw [nI_1, show 16 * sd + k + 1 = 16 * sd + (k + 1) by omega]
        refine ih (k + 1) rr u (by omega) hk1 hrr hu hnm h21 fun v v1 => hQ v ?_
        rw [List.any_cons, show (x.1 == wdi b n i) = false by simpa using z, Bool.false_or]
        exact v1
      · have hv : ∀ w, rr = some w → ¬ (tk_st b n i < w.2 ∨ (tk_st b n i = w.2 ∧ 3 < w.1)) := by
          intro w ew
          rcases hrr with e' | e'
          · rw [e'] at ew
            have := hr w ew
            omega
          · cases hr' : r with
            | some y =>
              rw [e', hr'] at ew
              have ew' : some y = some w := ew
              have := hr w (hr'.trans ew')
              omega
            | none =>
              rw [e', hr'] at ew
              have ew' : some (3, tk_st b n i) = some w := ew
              rw [Option.some.injEq] at ew'
              rw [← ew']
              omega
        have hsf : sf rr 3 (tk_st b n i) = sf r 3 (tk_st b n i) := by
          rcases hrr with e' | e'
          · rw [e']
          · rw [e']
            cases r <;> rfl
        refine y_wrong hP hm (x := 3) (by decide) (by decide) hu hii (by omega) hv fun v v1 v2 => b_X11_named_55 hP hm ?_
        rw [hsf] at v1
        rw [nI_1, show 16 * sd + k + 1 = 16 * sd + (k + 1) by omega]
        refine ih (k + 1) _ v (by omega) hk1 (Or.inr rfl) v1 (nmR_of hnm (fr_J v2 rfl) (fr_I v2 rfl) (fr_I v2 rfl)) ((fr_F v2 rfl).trans h21) fun q q1 => hQ q ?_
        rw [List.any_cons, show (x.1 == wdi b n i) = true by simpa using z, Bool.true_or, if_pos rfl]
        rw [ite_self] at q1
        exact q1
  refine key nx 0 r t (Nat.zero_le _) rfl (Or.inl rfl) t2 g9 g10 fun v v1 => h1 v e t1 ?_
  by_cases z : nx.any (fun e => e.1 == wdi b n i) = true
  · rw [if_pos z] at v1
    rw [twN_3 fun y => by rw [← g14 y]; exact z]
    exact v1
  · rw [if_neg z] at v1
    rw [twN_0 fun y => by rw [← g14 y]; exact bf z]
    exact v1
theorem y_bounded (hP : gc_Cl P) (hm : gc_Mo P) (hd : 2 ≤ d) (hn : n ≤ 2000) (hlt : ∀ j, b j < 256) {lo hi : Nat} (hlo : lo < 2 ^ 31) (hhi : hi < 2 ^ 31) (h : zR b n T sd m nl s0 i W r o s) (hr : ∀ w, r = some w → w.2 < tk_st b n i) (h1 : ∀ t, rk b n i = 2 → i < 400 → zR b n T sd m nl s0 (i + 1) W (nuN b n i lo hi r) o t → Q (some (.int (nI (nui b n i)))) t) (h2 : ∀ t x y, zFR sd s0 x (tk_st b n i) t → (rk b n i = 2 ∧ i = 400 ∧ x = 2) ∨ (rk b n i ≠ 2 ∧ x = 1) → Q (some (.int y)) t) : gc_T P d 0 0 197 0 [.ref 67, .int (nI lo), .int (nI hi), gc_u] [] s Q := by
  have h400 := zR_i h
  have hii : i < T := h.1.2.2.2
  refine b_X11_bounded_0 hP hm ?_
  rw [h.2.2.1.1]
  refine ⟨fun z => absurd z (by decide), fun _ => ⟨by omega, y_is hP hm h (fun e => ⟨fun _ => ?_, fun z => absurd z (by decide)⟩) (fun e => ⟨fun z => absurd rfl z, fun _ => b_X11_bounded_15 hP hm ⟨by omega, y_fail hP hm (x := 1) (by decide) h fun t t1 _ => h2 t _ _ t1 (Or.inr ⟨e, rfl⟩)⟩⟩)⟩⟩
  have hst := rk_n (i := i) (b := b) (n := n) (by rw [e]; decide)
  have hlt' := nui_lt hlt e
  rw [h.1.2.2.1, nI_clamp (by omega), nuR_at h.1 hii e]
  have fin : ∀ t rr, zR b n T sd m nl s0 i W rr o t → rr = nuN b n i lo hi r → gc_T P d 0 0 197 51 [.ref 67, .int (nI lo), .int (nI hi), .int (nI (nui b n i))] [] t Q := by
    intro t rr ht er
    refine b_X11_bounded_51 hP hm ⟨by omega, y_go hP hm (by omega) ht (by rw [e]; decide) (fun u u1 u2 _ => ?_) (fun u u1 u2 _ => h2 u _ _ u2 (Or.inl ⟨e, u1, rfl⟩))⟩
    rw [er] at u2
    exact h1 u e u1 u2
  have soft : ¬ (lo ≤ nui b n i ∧ nui b n i ≤ hi) → gc_T P d 0 0 197 42 [.ref 67, .int (nI lo), .int (nI hi), .int (nI (nui b n i))] [] s Q := by
    intro z
    refine b_X11_bounded_42 hP hm ?_
    rw [h.1.2.2.1]
    refine ⟨by omega, y_wrong hP hm (x := 5) (by decide) (by decide) h hii (by omega) (fun w ew => by have := hr w ew; omega) fun t t1 _ => fin t _ t1 (nuN_5 fun _ => z).symm⟩
  refine ⟨vp_in_nI (by omega) (by decide), pk_lt (nui b n i) lo (fun z => soft (by omega)) (fun z => pk_le (nui b n i) hi (fun z2 => fin s r h (nuN_0 fun _ => ⟨z, z2⟩).symm) (fun z2 => soft (by omega)))⟩
/-! with a fault -/
theorem f_named (hP : gc_Cl P) (hm : gc_Mo P) (hd : 2 ≤ d) {x p : Nat} (h : zH sd S0 x p s) (hQ : ∀ y, Q (some (.int y)) s) : gc_T P d 0 0 194 0 [.ref 67, gc_u, gc_u] [] s Q :=
  b_X11_named_0 hP hm ⟨by omega, sp_mmustF hP hm (by omega) (zH_n h).2.1 (b_X11_named_18 hP hm ⟨fun _ => hQ _, fun _ => ⟨fun _ => hQ _, fun z => absurd z (zH_n h).1⟩⟩)⟩
theorem f_bounded (hP : gc_Cl P) (hm : gc_Mo P) (hd : 1 ≤ d) {x p : Nat} {l1 l2 : Int32} (h : zH sd S0 x p s) (hQ : ∀ y, Q (some (.int y)) s) : gc_T P d 0 0 197 0 [.ref 67, .int l1, .int l2, gc_u] [] s Q :=
  b_X11_bounded_0 hP hm ⟨fun _ => b_X11_bounded_15 hP hm ⟨hd, sp_mfailF hP hm (zH_n h).2.1 (hQ _)⟩, fun z => absurd (zH_n h).2.2 z⟩
theorem f_tside (hP : gc_Cl P) (hm : gc_Mo P) (hd : 1 ≤ d) {x p : Nat} (h : zH sd S0 x p s) (hQ : ∀ y, Q (some (.int y)) s) : gc_T P d 0 0 199 0 [.ref 67, gc_u, gc_u, gc_u] [] s Q :=
  b_X11_tellSide_0 hP hm ⟨hd, sp_misF hP hm (zH_n h).1 ⟨fun _ => b_X11_tellSide_19 hP hm ⟨fun _ => hQ _, fun _ => ⟨fun _ => hQ _, fun z => absurd z (zH_n h).1⟩⟩, fun z => absurd rfl z⟩⟩
theorem f_points (hP : gc_Cl P) (hm : gc_Mo P) {x p : Nat} (h : zH sd S0 x p s) (hQ : ∀ t, zH sd S0 x p t → Q none t) : gc_T P d 0 0 206 0 [.ref 67, gc_u] [] s Q := by
  refine b_X11_pointsOf_0 hP hm ⟨fun _ => b_X11_pointsOf_22 hP hm (b_X11_pointsOf_23 hP hm ⟨fun _ => hQ _ ⟨⟨fr_wF rfl (fr_wF rfl h.1.1), kp_wF (kp_wF h.1.2)⟩, ⟨?_, ?_⟩, h.2.2.1, ?_⟩, fun z => absurd rfl z⟩), fun z => absurd z (zH_n h).1⟩
  · exact ((F_ne _ _ (Or.inr (by decide))).trans (F_ne _ _ (Or.inr (by decide)))).trans h.2.1.1
  · exact ((F_ne _ _ (Or.inr (by decide))).trans (F_ne _ _ (Or.inr (by decide)))).trans h.2.1.2
  · rw [F_ne _ _ (Or.inr (by decide)), F_ne _ _ (Or.inr (by decide))]
    exact h.2.2.2
theorem f_must (hP : gc_Cl P) (hm : gc_Mo P) (hd : 1 ≤ d) {x p : Nat} {l1 : Int32} (h : zH sd S0 x p s) (hQ : Q none s) : gc_T P d 0 0 188 0 [.ref 67, .int l1] [] s Q :=
  sp_mmustF hP hm hd (zH_n h).2.1 hQ
/-- a NAME noted -/
theorem y_notes (hP : gc_Cl P) (hm : gc_Mo P) (hlt : ∀ j, b j < 256) (hS : frR sd S0 s) (h : zR b n T sd m nl s0 i W r 0 s) {j kd ix : Nat} (hj : j < T) (hk : rk b n j = 1) (hkd : kd ≤ 3) (hix : ix < 8) (hk4 : kd = 0 → ix < 4) (hm16 : m < 16) (hQ : ∀ t, zU b n T sd (m + 1) (nl ++ [(wdi b n j, kd, ix)]) S0 i W r t → (∀ a, 79 ≤ a → gc_I t a = gc_I s a) → Q none t) : gc_T P d 0 0 195 0 [.ref 67, .int (nI j), .int (nI kd), .int (nI ix)] [] s Q := by
  have hw := wdi_ok hlt (Or.inl hk)
  have h' := h
  obtain ⟨c1, ⟨g1, g0⟩, ⟨g2, g3⟩, ⟨g4, g5, g6⟩, g7, g8, ⟨nx, g9, g10, g11, g12, g14⟩, g13⟩ := h'
  obtain ⟨n1, n2, n3⟩ := g9
  have hT := c1.1.1
  have hT403 : T < 404 := by omega
  refine b_X11_notes_0 hP hm ?_
  rw [g10, nI_clamp (by omega), nI_clamp (by omega), nmR_at c1 hj (Or.inl hk), nI_1]
  refine ⟨vp_in_nI (by omega) (by decide), vp_in_nI (by omega) (by decide), vp_in_nI (by omega) (by decide), vp_in_nI (by omega) (by decide), ?_⟩
  have hF : ∀ k, k ≠ 21 → gc_F (gc_wF (gc_wI (gc_wI (gc_wJ s 76 (16 * sd + nx.length) (lN (wnum 27 (wdi b n j)))) 77 (16 * sd + nx.length) (nI kd)) 78 (16 * sd + nx.length) (nI ix)) 67 21 (nI (16 * sd + nx.length + 1))) 67 k = gc_F s 67 k := fun k hk => F_ne _ _ (Or.inr hk)
  have hI : ∀ a, 79 ≤ a ∨ a < 76 → gc_I (gc_wF (gc_wI (gc_wI (gc_wJ s 76 (16 * sd + nx.length) (lN (wnum 27 (wdi b n j)))) 77 (16 * sd + nx.length) (nI kd)) 78 (16 * sd + nx.length) (nI ix)) 67 21 (nI (16 * sd + nx.length + 1))) a = gc_I s a := fun a ha => by
    show gc_I (gc_wI (gc_wI (gc_wJ s 76 (16 * sd + nx.length) (lN (wnum 27 (wdi b n j)))) 77 (16 * sd + nx.length) (nI kd)) 78 (16 * sd + nx.length) (nI ix)) a = gc_I s a
    rw [I_na _ _ (by omega), I_na _ _ (by omega)]
    rfl
  refine hQ _ ⟨frR_trans hS ⟨fr_wF rfl (fr_wI rfl (fr_wI rfl (fr_wJ rfl (fr_refl s)))), kp_wF (kp_wI' g4 (kp_wI' g4 ?_ (k' := nx.length) (by show nx.length < 16; omega) rfl) (k' := nx.length) (by show nx.length < 16; omega) rfl)⟩, rpw_of c1 (hF 12 (by decide)) (hI 71 (by decide)) (hI 72 (by decide)) (hI 73 (by decide)) (J_na _ _ (by decide)), ⟨fr_refl _, kp_refl _⟩, ⟨(hF 14 (by decide)).trans g2, (hF 43 (by decide)).trans g3⟩, ⟨g4, (hF 20 (by decide)).trans g5, (hF 13 (by decide)).trans g6⟩, mwr_of g7 (hF 16 (by decide)) (hF 17 (by decide)), cnR_of g8 (fun a a1 _ => hI a (by omega)), ⟨nx ++ [(wdi b n j, kd, ix)], ⟨n1, ?_, fun k e hk => ?_⟩, ?_, fun e he => ?_, ?_, fun z => by rw [g14 z]⟩, fun z => lwR_of (g13 z) (fun a a1 _ => hI a (by omega))⟩ (fun a ha => hI a (by omega))
  · exact kp_wJ (a := 76) (k' := nx.length) g4 (kp_refl s) (by show nx.length < 16; omega)
  · rw [List.length_append]
    show nx.length + 1 ≤ 16
    omega
  · show wok e.1 ∧ gc_J (gc_wJ s 76 (16 * sd + nx.length) (lN (wnum 27 (wdi b n j)))) 76 (16 * sd + k) = lN (wnum 27 e.1) ∧ gc_I (gc_wI (gc_wI (gc_wJ s 76 (16 * sd + nx.length) (lN (wnum 27 (wdi b n j)))) 77 (16 * sd + nx.length) (nI kd)) 78 (16 * sd + nx.length) (nI ix)) 77 (16 * sd + k) = nI e.2.1 ∧ gc_I (gc_wI (gc_wI (gc_wJ s 76 (16 * sd + nx.length) (lN (wnum 27 (wdi b n j)))) 77 (16 * sd + nx.length) (nI kd)) 78 (16 * sd + nx.length) (nI ix)) 78 (16 * sd + k) = nI e.2.2
    rcases Nat.lt_trichotomy k nx.length with z | z | z
    · rw [List.getElem?_append_left z] at hk
      rw [J_ne _ _ (Or.inr (by omega)), I_ne _ _ (Or.inr (by omega)), I_ne _ _ (Or.inr (by omega)), I_ne _ _ (Or.inr (by omega)), I_ne _ _ (Or.inr (by omega))]
      exact n3 k e hk
    · rw [z, List.getElem?_append_right (Nat.le_refl _), Nat.sub_self] at hk
      have he : (wdi b n j, kd, ix) = e := by
        simpa using hk
      rw [z, J_eq, I_ne _ _ (Or.inl (by decide)), I_eq, I_eq, ← he]
      exact ⟨hw, rfl, rfl, rfl⟩
    · rw [List.getElem?_eq_none (by rw [List.length_append]; show nx.length + 1 ≤ k; omega)] at hk
      exact absurd hk (by simp)
  · rw [F_eq, List.length_append]
    rfl
  · rcases List.mem_append.mp he with y | y
    · exact g11 e y
    · have ey : e = (wdi b n j, kd, ix) := by simpa using y
      rw [ey]
      exact ⟨hkd, hix, hk4⟩
  · rw [List.length_append]
    show nx.length + 1 ≤ m + 1
    omega
/-- the reference's law changed -/
theorem zU_up {t : gc_St} (hS : frR sd S0 s) (h : zR b n T sd m nl s0 i W r 0 s) (g : frR sd s t) (hF : ∀ k, gc_F t 67 k = gc_F s 67 k) (hI : ∀ a, a < 80 → gc_I t a = gc_I s a) (hJ : ∀ a, a < 80 → gc_J t a = gc_J s a) (hc : cnR W' sd t) (hl : r = none → lwR W' sd t) : zU b n T sd m nl S0 i W' r t := by
  obtain ⟨c1, ⟨g1, g0⟩, ⟨g2, g3⟩, ⟨g4, g5, g6⟩, g7, g8, ⟨nx, g9, g10, g11, g12, g14⟩, g13⟩ := h
  exact ⟨frR_trans hS g, rpw_of c1 (hF 12) (hI 71 (by decide)) (hI 72 (by decide)) (hI 73 (by decide)) (hJ 74 (by decide)), ⟨fr_refl t, kp_refl t⟩, ⟨(hF 14).trans g2, (hF 43).trans g3⟩, ⟨g4, (hF 20).trans g5, (hF 13).trans g6⟩, mwr_of g7 (hF 16) (hF 17), hc, ⟨nx, nmR_of g9 (hJ 76 (by decide)) (hI 77 (by decide)) (hI 78 (by decide)), (hF 21).trans g10, g11, g12, g14⟩, hl⟩
end Nu
