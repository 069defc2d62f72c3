/-! What the class's queries stand on; walks to their end. -/
def A0 (_ _ : Nat) : Bool := false
/-- what a query may have changed -/
def cx (A : Nat → Nat → Bool) (B : Nat → Bool) (kc : Nat) (s t : gc_St) : Prop :=
  (∀ q k, A q k = false → gc_F t q k = gc_F s q k) ∧ (∀ a, a < 116 → a ≠ 24 → B a = false → gc_I t a = gc_I s a) ∧ (∀ a, a < 116 → B a = false → gc_J t a = gc_J s a) ∧ gc_I t (gc_be s) = gc_I s (gc_be s) ∧
  ((A 3 9 = false → gc_ln t = gc_ln s) ∧ gc_lw t = gc_lw s ∧ gc_dr t = gc_dr s ∧ gc_rl t = gc_rl s ∧ gc_be t = gc_be s) ∧
  (∀ a, a < 116 + gc_n s → gc_D t a = gc_D s a) ∧
  (∀ i v, i < 1536 → gc_F s 10 1 = v → gc_I s 24 i = v → gc_I t 24 i = v) ∧
  kF (fun i => (gc_Y t i).isNone) 0 1536 + kc = kF (fun i => (gc_Y s i).isNone) 0 1536 ∧ gc_n t = gc_n s + kc
theorem cx_trans {A : Nat → Nat → Bool} {B : Nat → Bool} {k1 k2 : Nat} {s t u : gc_St} (hA : A 10 1 = false) (h : cx A B k1 s t) (g : cx A B k2 t u) : cx A B (k1 + k2) s u := by
  obtain ⟨h1, h2, h3, h4, ⟨h5, h6, h7, h8, h9⟩, h10, h11, h12, h13⟩ := h
  obtain ⟨g1, g2, g3, g4, ⟨g5, g6, g7, g8, g9⟩, g10, g11, g12, g13⟩ := g
  refine ⟨fun q k e => (g1 q k e).trans (h1 q k e), fun a e1 e2 e3 => (g2 a e1 e2 e3).trans (h2 a e1 e2 e3), fun a e1 e3 => (g3 a e1 e3).trans (h3 a e1 e3), ?_, ⟨fun e => (g5 e).trans (h5 e), g6.trans h6, g7.trans h7, g8.trans h8, g9.trans h9⟩, fun a ha => (g10 a (by omega)).trans (h10 a ha), fun i v hi e1 e2 => g11 i v hi ((h1 10 1 hA).trans e1) (h11 i v hi e1 e2), by omega, by omega⟩
  rw [h9] at g4
  exact g4.trans h4
theorem cx_up {A A' : Nat → Nat → Bool} {B B' : Nat → Bool} {kc : Nat} {s t : gc_St} (h : cx A B kc s t) (hA : ∀ q k, A q k = true → A' q k = true) (hB : ∀ a, B a = true → B' a = true) : cx A' B' kc s t := by
  obtain ⟨h1, h2, h3, h4, ⟨h5, h6, h7, h8, h9⟩, h10, h11, h12, h13⟩ := h
  exact ⟨fun q k e => h1 q k (ff (hA q k) e), fun a e1 e2 e3 => h2 a e1 e2 (ff (hB a) e3), fun a e1 e3 => h3 a e1 (ff (hB a) e3), h4, ⟨fun e => h5 (ff (hA 3 9) e), h6, h7, h8, h9⟩, h10, h11, h12, h13⟩
theorem cx_0 {A : Nat → Nat → Bool} {B : Nat → Bool} {kc : Nat} {s t : gc_St} (h : cx A0 B0 kc s t) : cx A B kc s t := cx_up h (fun _ _ e => absurd e (by unfold A0; decide)) (fun _ e => absurd e (by unfold B0; decide))
theorem cx_fr {A : Nat → Nat → Bool} {B : Nat → Bool} {s t : gc_St} (g : fr A B s t) (h24 : B 24 = false) (hbe : B (gc_be s) = false) : cx A B 0 s t := by
  refine ⟨fun q k e => fr_F g e, fun a _ _ e => fr_I g e, fun a _ e => fr_J g e, fr_I g hbe, ⟨fun e => fr_ln g e, fr_lw g, fr_dr g, fr_rl g, fr_be g⟩, fun a _ => by rw [fr_D g], fun i v _ _ e => by rw [fr_I g h24]; exact e, by rw [fr_Y g]; exact Nat.add_zero _, by rw [fr_n g]; exact (Nat.add_zero _).symm⟩
theorem cx_refl {A : Nat → Nat → Bool} {B : Nat → Bool} (s : gc_St) : cx A B 0 s s := ⟨fun _ _ _ => rfl, fun _ _ _ _ => rfl, fun _ _ _ => rfl, rfl, ⟨fun _ => rfl, rfl, rfl, rfl, rfl⟩, fun _ _ => rfl, fun _ _ _ _ e => e, Nat.add_zero _, (Nat.add_zero _).symm⟩
/-- behind prepare -/
theorem cx_pf {W : ld_W} {v o p b kc : Nat} {s t : gc_St} (ho : o < 8) (hp : p < ld_p W) (hb : b < 8) (hF : gc_F s 10 1 = nI v) (hR : cl_rows W v t) (hv : gc_I t 24 (cl_num o p b) = nI v) (g : pf (pS W o p b) s t) (hkc : kc = kF (fun i => pS W o p b i && (gc_Y s i).isNone) 0 1536) : cx A0 B0 kc s t := by
  obtain ⟨h1, h2, h3, h4, ⟨h5, h6, h7, h8, h9⟩, ⟨h10, h11⟩, h12, h13, h14⟩ := g
  have hk : kF (fun i => (gc_Y s i).isNone) 0 1536 = kF (fun i => (gc_Y t i).isNone) 0 1536 + kc := by
    rw [hkc]
    refine kF_two _ _ fun i _ hi => ?_
    rw [h13 i (by omega)]
    cases (gc_Y s i).isNone <;> cases pS W o p b i <;> simp
  refine ⟨fun q k _ => by rw [h1], fun a e1 e2 _ => h3 a e1 e2, fun a _ _ => by rw [h2], h4, ⟨fun _ => h5, h6, h7, h8, h9⟩, h11, fun i w hi e1 e2 => ?_, by omega, by omega⟩
  rw [hF] at e1
  rw [← e1] at e2 ⊢
  cases e : pS W o p b i with
  | false => rw [h12 i hi e]; exact e2
  | true =>
    obtain ⟨q, c, y1, y2, y3, y4, y5, y6⟩ := pS_of e
    rw [y1]
    exact (hR.2.2.2 o p b ho hp hb hv).2 q c y2 y3 y5 y6
def cq (W : ld_W) (L v : Nat) (h : Nat × Nat × Nat) (s : gc_St) : Prop := mvS W L v s ∧ v < 2 ^ 31 ∧ (gc_F s 49 0 = nI h.1 ∧ gc_F s 49 1 = nI h.2.1 ∧ gc_F s 49 2 = nI h.2.2) ∧ h.1 < ld_N W ∧ h.2.1 < 2 ^ ld_o W ∧ h.2.2 < 2 ^ ld_b W
theorem p8 {n x : Nat} (hn : n ≤ 3) (h : x < 2 ^ n) : x < 8 := Nat.lt_of_lt_of_le h (Nat.le_trans (Nat.pow_le_pow_right (by decide) hn) (by decide))
theorem cq_b {W : ld_W} {L v : Nat} {h : Nat × Nat × Nat} {s : gc_St} (hq : cq W L v h s) : h.2.1 < 8 ∧ h.2.2 < 8 ∧ ld_ok W := ⟨p8 hq.1.1.2.2.2.1.1.2.1 hq.2.2.2.2.1, p8 hq.1.1.2.2.2.1.1.2.2.1 hq.2.2.2.2.2, hq.1.1.2.2.2.1⟩
theorem cq_pf {W : ld_W} {L v : Nat} {h : Nat × Nat × Nat} {S : Nat → Bool} {s t : gc_St} (hq : cq W L v h s) (hR : cl_rows W v t) (g : pf S s t) : cq W L v h t := by
  obtain ⟨h1, h2, h3, h4⟩ := hq
  refine ⟨⟨cl_C_pf h1.1 g, hR⟩, h2, ?_, h4⟩
  rw [g.1]
  exact h3
theorem cq_W {W : ld_W} {L v q : Nat} {h : Nat × Nat × Nat} {s t : gc_St} (hw : wq q) (hq : cq W L v h s) (g : fr (AW q) (BW q) s t) : cq W L v h t := by
  obtain ⟨h1, h2, h3, h4⟩ := hq
  have e : ∀ k, gc_F t 49 k = gc_F s 49 k := fun k => fr_F g (bf fun z => by have := AW_iff.mp z; unfold wq at hw; omega)
  refine ⟨mvS_W hw h1 g, h2, ?_, h4⟩
  rw [e, e, e]
  exact h3
theorem AW_32 {q : Nat} {s t : gc_St} (g : fr A32 B33 s t) : fr (AW q) (BW q) s t := fr_up g (fun _ _ z => AW_iff.mpr (Or.inl (A32_iff.mp z))) (fun _ z => BW_iff.mpr (Or.inl (B33_iff.mp z)))
theorem AW_V {q : Nat} {s t : gc_St} (g : fr (AV q) (BV q) s t) : fr (AW q) (BW q) s t := fr_up g (fun _ _ z => AW_iff.mpr (Or.inr ⟨(AV_iff.mp z).1, Or.inr (AV_iff.mp z).2⟩)) (fun _ z => BW_iff.mpr (Or.inr (BV_iff.mp z)))
theorem cx_W {W : ld_W} {v q : Nat} {s t : gc_St} (hw : wq q) (hR : cl_rows W v s) (g : fr (AW q) (BW q) s t) : cx (AW q) (BW q) 0 s t := by
  refine cx_fr g (bf fun z => ?_) (bf fun z => ?_)
  · have := BW_iff.mp z
    unfold wq at hw
    omega
  · have := BW_iff.mp z
    have := hR.2.2.1.1
    unfold wq at hw
    omega
/-! Walks, as numbers. -/
section Wn
variable {W : ld_W} {o : Nat}
noncomputable def wk_1 (W : ld_W) (o : Nat) (K : List (Nat × Nat × Nat)) : List (Nat × Nat × Nat) := match K with
  | [] => []
  | l :: r => (mv_best W o l.1 l.2.1 l.2.2).2.1 ++ r
noncomputable def wk_n (W : ld_W) (o : Nat) : Nat → List (Nat × Nat × Nat) → List (Nat × Nat × Nat)
  | 0, K => K
  | n + 1, K => wk_n W o n (wk_1 W o K)
noncomputable def wk_T (W : ld_W) (o : Nat) (K : List (Nat × Nat × Nat)) : Nat := dp_sum K (dp_Sz W o)
theorem dp_sum_app {f : Nat → Nat → Nat → Nat} : ∀ (a b : List (Nat × Nat × Nat)), dp_sum (a ++ b) f = dp_sum a f + dp_sum b f
  | [], b => (Nat.zero_add _).symm
  | l :: a, b => by
    show f l.1 l.2.1 l.2.2 + dp_sum (a ++ b) f = f l.1 l.2.1 l.2.2 + dp_sum a f + dp_sum b f
    rw [dp_sum_app a b, Nat.add_assoc]
theorem wk_T_S (h : ld_ok W) {l : Nat × Nat × Nat} {K : List (Nat × Nat × Nat)} (hw : wkI W o (l :: K)) : wk_T W o (l :: K) = wk_T W o (wk_1 W o (l :: K)) + 1 := by
  obtain ⟨h1, h2, h3, h4, _⟩ := hw K.length l rv_top
  unfold wk_T wk_1
  rw [dp_sum_app]
  show dp_Sz W o l.1 l.2.1 l.2.2 + dp_sum K (dp_Sz W o) = _
  rw [dp_Sz_eq h h1 h2 h3 h4]
  omega
theorem wk_nil : ∀ n, wk_n W o n [] = []
  | 0 => rfl
  | n + 1 => wk_nil n
theorem wk_end (h : ld_ok W) : ∀ n K, wkI W o K → wk_T W o K ≤ n → wk_n W o n K = []
  | n, [], _, _ => wk_nil n
  | 0, l :: K, hw, hn => by
    have := wk_T_S h hw
    omega
  | n + 1, l :: K, hw, hn => by
    have := wk_T_S h hw
    exact wk_end h n _ (wkI_step h hw).1 (by omega)
theorem wk_ne (h : ld_ok W) : ∀ n K, wkI W o K → n < wk_T W o K → wk_n W o n K ≠ []
  | n, [], _, hn => absurd hn (Nat.not_lt_zero n)
  | 0, l :: K, _, _ => by
    show l :: K ≠ []
    simp
  | n + 1, l :: K, hw, hn => by
    have := wk_T_S h hw
    exact wk_ne h n _ (wkI_step h hw).1 (by omega)
theorem wkI_n (h : ld_ok W) : ∀ n K, wkI W o K → wkI W o (wk_n W o n K)
  | 0, K, hw => hw
  | n + 1, [], hw => wkI_n h n [] hw
  | n + 1, l :: K, hw => wkI_n h n _ (wkI_step h hw).1
/-- one place -/
theorem wkI_1 {p s b : Nat} (h : ld_ok W) (hp : p < ld_p W) (hs : s < ld_N W) (hb : b < 8) (hD : dp_D W o p s b ≠ 0) : wkI W o [(p, s, b)] := by
  have := h.1.2.2.2.2
  have := sb_n_le b hb
  refine wkI_cons (K := []) (fun i l hi => by simp at hi) hp hs hb hD ?_
  show 0 + p + sb_n b ≤ 26
  omega
def vK (v o : Nat) (s : gc_St) (K : List (Nat × Nat × Nat)) : Prop := ∀ l, l ∈ K → gc_I s 24 (cl_num o l.1 l.2.2) = nI v
theorem wkI_mem {K : List (Nat × Nat × Nat)} (hw : wkI W o K) {l : Nat × Nat × Nat} (hl : l ∈ K) : l.1 < ld_p W ∧ l.2.1 < ld_N W ∧ l.2.2 < 8 ∧ dp_D W o l.1 l.2.1 l.2.2 ≠ 0 := by
  have : l ∈ K.reverse := List.mem_reverse.mpr hl
  obtain ⟨i, hi⟩ := List.getElem?_of_mem this
  obtain ⟨h1, h2, h3, h4, _⟩ := hw i l hi
  exact ⟨h1, h2, h3, h4⟩
theorem vK_best {v : Nat} {s : gc_St} (h : ld_ok W) (hR : cl_rows W v s) (ho : o < 8) {l : Nat × Nat × Nat} {K : List (Nat × Nat × Nat)} (hw : wkI W o (l :: K)) (hv : vK v o s (l :: K)) {k : Nat × Nat × Nat} (hk : k ∈ (mv_best W o l.1 l.2.1 l.2.2).2.1) : gc_I s 24 (cl_num o k.1 k.2.2) = nI v := by
  obtain ⟨h1, h2, h3, h4⟩ := wkI_mem hw (List.mem_cons_self)
  obtain ⟨_, hm, _⟩ := mv_best_at h h1 h2 h3 h4
  exact ((vl_mv h hR ho h1 h2 h3 (hv l List.mem_cons_self) hm).2 k hk).2.2.2
theorem vK_1 {v : Nat} {s : gc_St} (h : ld_ok W) (hR : cl_rows W v s) (ho : o < 8) {l : Nat × Nat × Nat} {K : List (Nat × Nat × Nat)} (hw : wkI W o (l :: K)) (hv : vK v o s (l :: K)) : vK v o s (wk_1 W o (l :: K)) := by
  intro k hk
  rcases List.mem_append.mp hk with hk | hk
  · exact vK_best h hR ho hw hv hk
  · exact hv k (List.mem_cons_of_mem _ hk)
theorem vK_fr {v q : Nat} {s t : gc_St} {K : List (Nat × Nat × Nat)} (hq : wq q) (hv : vK v o s K) (g : fr (AW q) (BW q) s t) : vK v o t K := by
  intro l hl
  rw [fr_I g (bf fun z => by have := BW_iff.mp z; unfold wq at hq; omega)]
  exact hv l hl
end Wn
section Po
variable {P : gc_Pr} {d : Nat} {s : gc_St} {Q : gc_TQ} {W : ld_W} {L v o q kc p : Nat} {K : List (Nat × Nat × Nat)} {h : Nat × Nat × Nat}
theorem wk_to_all {m : mv_T} : wk_to m (-1) K = m.2.1 ++ K := by
  unfold wk_to
  rw [if_neg (fun z => z.2 rfl)]
theorem sp_passOn (hP : gc_Cl P) (hm : gc_Mo P) (hd : 6 ≤ d) (hq : wq q) (hS : mvS W L v s) (hw : wkP q K s) (hI : wkI W o K) (h4 : gc_F s q 4 = nI o) (ho : o < 8) (hv : vK v o s K) {m : Nat} (hm31 : m < 2 ^ 31) (hT : wk_T W o K ≤ 999999)
    (hQ : ∀ t, mvS W L v t → wkP q (wk_n W o (min m (wk_T W o K)) K) t → gc_F t q 4 = nI o → vK v o t (wk_n W o (min m (wk_T W o K)) K) → fr (AW q) (BW q) s t → Q (some (.int (nI (min m (wk_T W o K))))) t) :
    gc_T P d 0 0 119 0 [.ref q, .int (nI m), gc_u] [] s Q := by
  have hok := hS.1.2.2.2.1
  have key : ∀ n (K : List (Nat × Nat × Nat)) (j : Nat) (t : gc_St), n = min (m - j) (wk_T W o K) → j ≤ m → j + wk_T W o K ≤ 999999 → mvS W L v t → wkP q K t → wkI W o K → gc_F t q 4 = nI o → vK v o t K →
      (∀ u, mvS W L v u → wkP q (wk_n W o n K) u → gc_F u q 4 = nI o → vK v o u (wk_n W o n K) → fr (AW q) (BW q) t u → Q (some (.int (nI (j + n)))) u) → gc_T P d 0 0 119 2 [.ref q, .int (nI m), .int (nI j)] [] t Q := by
    intro n
    induction n with
    | zero =>
      intro K j t hn hj hT' tS tw tI t4 tv tQ
      refine b_X9_passOn_2 hP hm (wq_io hq) (pk_le m j (fun _ => tQ t tS tw t4 tv (fr_refl t)) (fun z => pk_le 1000000 j (fun y => by omega) (fun _ => ⟨by omega, ?_⟩)))
      have hK : K = [] := by
        cases K with
        | nil => rfl
        | cons l K =>
          have := wk_T_S hok tI
          omega
      subst hK
      exact sp_choose0 hP hm hq tw ⟨fun _ => tQ t tS tw t4 tv (fr_refl t), fun y => absurd rfl y⟩
    | succ n ih =>
      intro K j t hn hj hT' tS tw tI t4 tv tQ
      cases K with
      | nil =>
        have : wk_T W o [] = 0 := rfl
        omega
      | cons l K =>
        have hTS := wk_T_S hok tI
        have hst := wkI_step hok tI
        have hlen := wkI_len tI
        rw [List.length_cons] at hlen
        refine b_X9_passOn_2 hP hm (wq_io hq) (pk_le m j (fun z => by omega) (fun z => pk_le 1000000 j (fun y => by omega) (fun _ => ⟨by omega, ?_⟩)))
        refine sp_choose hP hm (by omega) hq tS tw tI t4 ho (tv l List.mem_cons_self) fun u u1 u2 u3 => ⟨fun y => absurd y (by decide), fun _ => ⟨by omega, ?_⟩⟩
        refine sp_follow hP hm (by omega) hq u1 (wkP_32 hq tw u3) (by omega) (by omega) hst.2.2.1 (fun _ => Or.inl rfl) fun w w1 w2 => ?_
        show gc_T P d 0 0 119 2 [.ref q, .int (nI m), .int (nI j + 1)] [] w Q
        rw [wk_to_all] at w1
        have g : fr (AW q) (BW q) t w := fr_trans (AW_32 u3) (AW_V w2)
        have e4 : gc_F w q 4 = nI o := by
          rw [fr_F w2 (bf fun z => by have := AV_iff.mp z; omega), fr_F u3 (bf fun z => by have := A32_iff.mp z; unfold wq at hq; omega)]
          exact t4
        rw [nI_1]
        refine ih _ (j + 1) w (by have : wk_1 W o (l :: K) = (mv_best W o l.1 l.2.1 l.2.2).2.1 ++ K := rfl; rw [← this]; omega) (by omega) (by have : wk_1 W o (l :: K) = (mv_best W o l.1 l.2.1 l.2.2).2.1 ++ K := rfl; rw [← this]; omega) (mvS_W hq tS g) w1 hst.1 e4 (vK_fr hq (vK_1 hok tS.2 ho tI tv) g) fun x x1 x2 x3 x4 x5 => ?_
        have := tQ x x1 x2 x3 x4 (fr_trans g x5)
        rw [show j + 1 + n = j + (n + 1) by omega]
        exact this
  refine b_X9_passOn_0 hP hm (wq_io hq) ?_
  refine key (min m (wk_T W o K)) K 0 s (by omega) (by omega) (by omega) hS hw hI h4 hv fun u u1 u2 u3 u4 u5 => ?_
  rw [Nat.zero_add]
  exact hQ u u1 u2 u3 u4 u5
theorem sp_begin (hP : gc_Cl P) (hm : gc_Mo P) (hd : 1 ≤ d) (hq : wq q) (hc : cq W L v h s) (hQ : ∀ t, wkP q [(p, h.1, h.2.2)] t → gc_F t q 4 = nI h.2.1 → fr (AW q) (BW q) s t → Q none t) : gc_T P d 0 0 115 0 [.ref q, .ref 49, .int (nI p)] [] s Q := by
  have hne : (49 : Nat) ≠ q := by
    unfold wq at hq
    omega
  refine b_X9_begin_0 hP hm (wq_io hq) ⟨by decide, rfl⟩ ⟨hd, ?_⟩
  have g0 : fr (AW q) (BW q) s (gc_wF (gc_wF s q 4 (gc_F s 49 1)) q 5 0) := fr_wF (AW_iff.mpr (Or.inr ⟨rfl, Or.inr rfl⟩)) (fr_wF (AW_iff.mpr (Or.inr ⟨rfl, Or.inl rfl⟩)) (fr_refl s))
  rw [F_ne _ _ (Or.inl hne), F_ne _ _ (Or.inl hne), F_ne _ _ (Or.inl hne), F_ne _ _ (Or.inl hne), hc.2.2.1.1, hc.2.2.1.2.2]
  refine sp_open hP hm hq (K := []) ⟨F_eq _ _ _ _, fun i l hi => by simp at hi⟩ (by decide) fun t t1 t2 => hQ t t1 ?_ (fr_trans g0 (AW_V t2))
  rw [fr_F t2 (bf fun z => by have := AV_iff.mp z; omega), F_ne _ _ (Or.inr (by decide)), F_eq]
  exact hc.2.2.1.2.1
end Po
