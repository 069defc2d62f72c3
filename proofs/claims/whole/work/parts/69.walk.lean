/-! A walk: places that must still be shown, one on the other (the first is on top). -/
def wq (q : Nat) : Prop := q = 36 ∨ q = 40
theorem wq_io {q : Nat} (h : wq q) : gc_io 9 q := by
  rcases h with rfl | rfl
  · exact ⟨by decide, rfl⟩
  · exact ⟨by decide, rfl⟩
theorem wq_0 {q : Nat} (h : wq q) : gc_rS q 0 = 32 := by
  rcases h with rfl | rfl <;> rfl
theorem wq_1 {q : Nat} (h : wq q) : gc_rS q 1 = q + 1 := by
  rcases h with rfl | rfl <;> rfl
theorem wq_2 {q : Nat} (h : wq q) : gc_rS q 2 = q + 2 := by
  rcases h with rfl | rfl <;> rfl
theorem wq_3 {q : Nat} (h : wq q) : gc_rS q 3 = q + 3 := by
  rcases h with rfl | rfl <;> rfl
def wkP (q : Nat) (K : List (Nat × Nat × Nat)) (s : gc_St) : Prop := gc_F s q 5 = nI K.length ∧ ∀ i l, K.reverse[i]? = some l → gc_I s (q + 1) i = nI l.1 ∧ gc_I s (q + 2) i = nI l.2.1 ∧ gc_I s (q + 3) i = nI l.2.2
def AW (q q' k : Nat) : Bool := Nat.beq q' 32 || (Nat.beq q' q && (Nat.beq k 4 || Nat.beq k 5))
def BW (q a : Nat) : Bool := B33 a || (Nat.ble (q + 1) a && Nat.ble a (q + 3))
/-- only the walk's own cells -/
def AV (q q' k : Nat) : Bool := Nat.beq q' q && Nat.beq k 5
def BV (q a : Nat) : Bool := Nat.ble (q + 1) a && Nat.ble a (q + 3)
theorem bf {b : Bool} (h : b = true → False) : b = false := by
  cases b with
  | false => rfl
  | true => exact (h rfl).elim
theorem AV_iff {q q' k : Nat} : AV q q' k = true ↔ q' = q ∧ k = 5 := by
  unfold AV
  simp only [Bool.and_eq_true, Nat.beq_eq]
theorem BV_iff {q a : Nat} : BV q a = true ↔ q + 1 ≤ a ∧ a ≤ q + 3 := by
  unfold BV
  simp only [Bool.and_eq_true, Nat.ble_eq]
theorem AW_iff {q q' k : Nat} : AW q q' k = true ↔ q' = 32 ∨ (q' = q ∧ (k = 4 ∨ k = 5)) := by
  unfold AW
  simp only [Bool.and_eq_true, Bool.or_eq_true, Nat.beq_eq]
theorem B33_iff {a : Nat} : B33 a = true ↔ 33 ≤ a ∧ a ≤ 35 := by
  unfold B33
  simp only [Bool.and_eq_true, Nat.ble_eq]
theorem BW_iff {q a : Nat} : BW q a = true ↔ (33 ≤ a ∧ a ≤ 35) ∨ (q + 1 ≤ a ∧ a ≤ q + 3) := by
  unfold BW
  simp only [Bool.and_eq_true, Bool.or_eq_true, Nat.ble_eq, B33_iff]
theorem A32_iff {q' k : Nat} : A32 q' k = true ↔ q' = 32 := by
  unfold A32
  simp only [Nat.beq_eq]
theorem A69_iff {q' k : Nat} : A69 q' k = true ↔ q' = 32 ∧ 6 ≤ k ∧ k ≤ 9 := by
  unfold A69
  simp only [Bool.and_eq_true, Nat.beq_eq, Nat.ble_eq]
theorem ff {b c : Bool} (h : b = true → c = true) (e : c = false) : b = false := bf fun z => by
  rw [h z] at e
  exact absurd e (by decide)
theorem fr_up {A A' : Nat → Nat → Bool} {B B' : Nat → Bool} {s t : gc_St} (h : fr A B s t) (hA : ∀ q k, A q k = true → A' q k = true) (hB : ∀ a, B a = true → B' a = true) : fr A' B' s t :=
  fr_mono (fun q k => ff (hA q k)) (fun a => ff (hB a)) h
theorem mvS_W {W : ld_W} {L v q : Nat} {s t : gc_St} (hq : wq q) (h : mvS W L v s) (g : fr (AW q) (BW q) s t) : mvS W L v t := by
  refine mvS_fr h g ⟨bf fun z => ?_, fun k => ⟨bf fun z => ?_, bf fun z => ?_⟩⟩ (fun a ha => bf fun z => ?_)
  · have := AW_iff.mp z
    unfold wq at hq
    omega
  · have := AW_iff.mp z
    unfold wq at hq
    omega
  · have := AW_iff.mp z
    unfold wq at hq
    omega
  · have := BW_iff.mp z
    unfold wq at hq
    omega
theorem wkP_fr {A : Nat → Nat → Bool} {B : Nat → Bool} {q : Nat} {K : List (Nat × Nat × Nat)} {s t : gc_St} (h : wkP q K s) (g : fr A B s t) (hA : A q 5 = false) (hB : B (q + 1) = false ∧ B (q + 2) = false ∧ B (q + 3) = false) : wkP q K t := by
  refine ⟨(fr_F g hA).trans h.1, fun i l hi => ?_⟩
  rw [fr_I g hB.1, fr_I g hB.2.1, fr_I g hB.2.2]
  exact h.2 i l hi
theorem wkP_32 {q : Nat} (hq : wq q) {K : List (Nat × Nat × Nat)} {s t : gc_St} (h : wkP q K s) (g : fr A32 B33 s t) : wkP q K t := by
  rcases hq with rfl | rfl
  · exact wkP_fr h g rfl ⟨rfl, rfl, rfl⟩
  · exact wkP_fr h g rfl ⟨rfl, rfl, rfl⟩
/-- the walk's places: they can be shown, and there are few -/
def wkI (W : ld_W) (o : Nat) (K : List (Nat × Nat × Nat)) : Prop := ∀ i l, K.reverse[i]? = some l → l.1 < ld_p W ∧ l.2.1 < ld_N W ∧ l.2.2 < 8 ∧ dp_D W o l.1 l.2.1 l.2.2 ≠ 0 ∧ i + l.1 + sb_n l.2.2 ≤ 26
theorem rv_len {K : List (Nat × Nat × Nat)} {i : Nat} (hi : i < K.length) : ∃ l, K.reverse[i]? = some l := ⟨K.reverse[i]'(by rw [List.length_reverse]; exact hi), List.getElem?_eq_getElem _⟩
theorem wkI_len {W : ld_W} {o : Nat} {K : List (Nat × Nat × Nat)} (h : wkI W o K) : K.length ≤ 27 := by
  rcases Nat.lt_or_ge 27 K.length with e | e
  · obtain ⟨l, hl⟩ := rv_len (K := K) (i := 27) e
    have := (h 27 l hl).2.2.2.2
    omega
  · exact e
theorem rv_top {K : List (Nat × Nat × Nat)} {l : Nat × Nat × Nat} : (l :: K).reverse[K.length]? = some l := by
  rw [List.reverse_cons, List.getElem?_append_right (by rw [List.length_reverse]; exact Nat.le_refl _), List.length_reverse, Nat.sub_self]
  rfl
theorem rv_low {K : List (Nat × Nat × Nat)} {l m : Nat × Nat × Nat} {i : Nat} (h : K.reverse[i]? = some m) : (l :: K).reverse[i]? = some m := by
  rw [List.reverse_cons, List.getElem?_append_left (List.getElem?_eq_some_iff.mp h).1]
  exact h
theorem rv_or {K : List (Nat × Nat × Nat)} {l m : Nat × Nat × Nat} {i : Nat} (h : (l :: K).reverse[i]? = some m) : K.reverse[i]? = some m ∨ (i = K.length ∧ m = l) := by
  rw [List.reverse_cons] at h
  rcases Nat.lt_or_ge i K.reverse.length with e | e
  · rw [List.getElem?_append_left e] at h
    exact Or.inl h
  · rw [List.getElem?_append_right e] at h
    have := one_at h
    rw [List.length_reverse] at this e
    exact Or.inr ⟨by omega, this.2⟩
theorem wkI_tl {W : ld_W} {o : Nat} {K : List (Nat × Nat × Nat)} {l : Nat × Nat × Nat} (h : wkI W o (l :: K)) : wkI W o K := fun i m hi => h i m (rv_low hi)
theorem wkI_cons {W : ld_W} {o : Nat} {K : List (Nat × Nat × Nat)} {l : Nat × Nat × Nat} (h : wkI W o K) (h1 : l.1 < ld_p W) (h2 : l.2.1 < ld_N W) (h3 : l.2.2 < 8) (h4 : dp_D W o l.1 l.2.1 l.2.2 ≠ 0) (h5 : K.length + l.1 + sb_n l.2.2 ≤ 26) : wkI W o (l :: K) := by
  intro i m hi
  rcases rv_or hi with e | ⟨rfl, rfl⟩
  · exact h i m e
  · exact ⟨h1, h2, h3, h4, h5⟩
section Wa
variable {W : ld_W} {o : Nat}
/-- of two that a step leads to the first has less before it -/
theorem mv_two_less (h : ld_ok W) {p s b : Nat} (hp : p < ld_p W) (hb : b < 8) {m : mv_T} (hm : m ∈ mv_all W o p s b) {l k : Nat × Nat × Nat} (e : m.2.1 = [l, k]) (hlb : l.2.2 < 8 ∧ sb_in l.2.2 b = true) : l.1 + sb_n l.2.2 + 1 ≤ p + sb_n b := by
  have hn := sb_n_in b hb l.2.2 hlb.1 hlb.2
  rcases mv_all_mem.mp hm with hm | ⟨j, hj, hm⟩ | ⟨j, hj, hm⟩
  · obtain ⟨e1, e2, e3⟩ := mv_own_two hm e
    have := (ld_part h hp (by omega)).1
    omega
  · obtain ⟨_, t, _, rfl⟩ := mv_oath_of hm
    simp at e
  · have hb3 := h.1.2.2.1
    obtain ⟨hbit, t, ht, ⟨_, rfl⟩ | ⟨x, t2, hx, ht2, rfl⟩⟩ := mv_barg_of hm
    · simp at e
    · simp only [List.cons.injEq, and_true] at e
      obtain ⟨rfl, rfl⟩ := e
      have := sb_n_bit b hb j (by omega) hbit
      show p + sb_n (b - 2 ^ j) + 1 ≤ p + sb_n b
      omega
theorem sb_n_sub {b c : Nat} (hb : b < 8) (hc : c < 8) (h : sb_in c b = true) : sb_n c ≤ sb_n b := sb_n_in b hb c hc h
/-- a step of the walk: all that it leads to comes on top -/
theorem wkI_step (h : ld_ok W) {K : List (Nat × Nat × Nat)} {l : Nat × Nat × Nat} (hw : wkI W o (l :: K)) : wkI W o ((mv_best W o l.1 l.2.1 l.2.2).2.1 ++ K) ∧ (∀ k, k ∈ (mv_best W o l.1 l.2.1 l.2.2).2.1 → wkI W o (k :: K)) ∧ (mv_best W o l.1 l.2.1 l.2.2).2.1.length ≤ 2 ∧ (mv_best W o l.1 l.2.1 l.2.2).1 < 30 := by
  obtain ⟨h1, h2, h3, h4, h5⟩ := hw K.length l rv_top
  have hK := wkI_tl hw
  obtain ⟨_, hm, _⟩ := mv_best_at h h1 h2 h3 h4
  have hl := mv_best_ld h h1 h2 h3 h4
  have hlen := (mv_ld h h1 h2 h3 hm).1
  have one : ∀ k, k ∈ (mv_best W o l.1 l.2.1 l.2.2).2.1 → wkI W o (k :: K) := by
    intro k hk
    obtain ⟨a1, a2, a3, a4, a5, a6, a7, a8⟩ := hl k hk
    have := sb_n_sub h3 a4 a5
    exact wkI_cons hK a2 a3 a4 a7 (by omega)
  have h30 : (mv_best W o l.1 l.2.1 l.2.2).1 < 30 := by
    rcases mv_all_mem.mp hm with hm | ⟨j, hj, hm⟩ | ⟨j, hj, hm⟩
    · unfold mv_own at hm
      split at hm
      · split at hm
        · rw [List.mem_singleton.mp hm]; show _ < 30; omega
        · simp at hm
      · split at hm
        · rw [List.mem_singleton.mp hm]; show _ < 30; omega
        · simp at hm
      · rw [List.mem_singleton.mp hm]; show _ < 30; omega
      · simp only [List.mem_cons, List.not_mem_nil, or_false] at hm
        rcases hm with e | e
        · rw [e]; show _ < 30; omega
        · rw [e]; show _ < 30; omega
      · rw [List.mem_singleton.mp hm]; show _ < 30; omega
      · simp only [List.mem_flatMap, List.mem_map] at hm
        obtain ⟨u, _, c, _, e⟩ := hm
        rw [← e]
        show 6 < 30; omega
      · split at hm
        · rw [List.mem_singleton.mp hm]; show _ < 30; omega
        · simp at hm
      · split at hm
        · rw [List.mem_singleton.mp hm]; show _ < 30; omega
        · simp at hm
    · obtain ⟨_, t, _, e⟩ := mv_oath_of hm
      have := h.1.2.1
      rw [e]
      show 10 + j < 30
      omega
    · have := h.1.2.2.1
      obtain ⟨_, t, _, ⟨_, e⟩ | ⟨x, t2, _, _, e⟩⟩ := mv_barg_of hm
      · rw [e]
        show 20 + j < 30
        omega
      · rw [e]
        show 20 + j < 30
        omega
  refine ⟨?_, one, hlen, h30⟩
  generalize hls : (mv_best W o l.1 l.2.1 l.2.2).2.1 = ls at one hl hlen
  match ls, hlen, one, hl, hls with
  | [], _, _, _, _ => exact hK
  | [k], _, one, _, _ => exact one k (by simp)
  | [k, j], _, one, hl, hls =>
    obtain ⟨a1, a2, a3, a4, a5, a6, a7, a8⟩ := hl k (by simp)
    have := mv_two_less h h1 h3 hm hls ⟨a4, a5⟩
    exact wkI_cons (one j (by simp)) a2 a3 a4 a7 (by show K.length + 1 + k.1 + sb_n k.2.2 ≤ 26; omega)
  | _ :: _ :: _ :: _, hlen, _, _, _ => simp at hlen
end Wa
section Wk
variable {P : gc_Pr} {d : Nat} {s : gc_St} {Q : gc_TQ} {W : ld_W} {L v o q : Nat} {K : List (Nat × Nat × Nat)}
theorem sp_open (hP : gc_Cl P) (hm : gc_Mo P) (hq : wq q) (hw : wkP q K s) (hlen : K.length < 64) {x y z : Nat} (h : ∀ t, wkP q ((x, y, z) :: K) t → fr (AV q) (BV q) s t → Q none t) : gc_T P d 0 0 116 0 [.ref q, .int (nI x), .int (nI y), .int (nI z)] [] s Q := by
  refine b_X9_open_0 hP hm (wq_io hq) ?_
  rw [hw.1, nI_clamp (by omega), wq_1 hq, wq_2 hq, wq_3 hq]
  refine pk_le 64 K.length (fun w => by omega) (fun _ => ⟨vp_in_nI hlen (by decide), vp_in_nI hlen (by decide), vp_in_nI hlen (by decide), ?_⟩)
  rw [nI_1]
  refine h _ ⟨?_, fun i l hi => ?_⟩ (fr_wF (AV_iff.mpr ⟨rfl, rfl⟩) (fr_wI (BV_iff.mpr (by omega)) (fr_wI (BV_iff.mpr (by omega)) (fr_wI (BV_iff.mpr (by omega)) (fr_refl s)))))
  · rw [F_eq]
    rfl
  · rw [rw_I_wF]
    rcases rv_or hi with e | ⟨rfl, rfl⟩
    · have hne : i ≠ K.length := by
        have := (List.getElem?_eq_some_iff.mp e).1
        rw [List.length_reverse] at this
        omega
      have := hw.2 i l e
      refine ⟨?_, ?_, ?_⟩
      · rw [I_ne _ _ (Or.inr hne), I_ne _ _ (Or.inr hne), I_ne _ _ (Or.inr hne)]
        exact this.1
      · rw [I_ne _ _ (Or.inr hne), I_ne _ _ (Or.inr hne), I_ne _ _ (Or.inr hne)]
        exact this.2.1
      · rw [I_ne _ _ (Or.inr hne), I_ne _ _ (Or.inr hne), I_ne _ _ (Or.inr hne)]
        exact this.2.2
    · refine ⟨?_, ?_, I_eq _ _ _ _⟩
      · rw [I_ne _ _ (Or.inl (by omega)), I_ne _ _ (Or.inl (by omega)), I_eq]
      · rw [I_ne _ _ (Or.inl (by omega)), I_eq]
theorem sp_choose0 (hP : gc_Cl P) (hm : gc_Mo P) (hq : wq q) (hw : wkP q [] s) (h : Q (some (.int 0)) s) : gc_T P d 0 0 117 0 [.ref q, gc_u] [] s Q := by
  refine b_X9_choose_0 hP hm (wq_io hq) ?_
  rw [hw.1]
  exact ⟨fun _ => h, fun y => absurd (by decide) y⟩
theorem sp_choose (hP : gc_Cl P) (hm : gc_Mo P) (hd : 5 ≤ d) (hq : wq q) (hS : mvS W L v s) {l : Nat × Nat × Nat} (hw : wkP q (l :: K) s) (hI : wkI W o (l :: K)) (h4 : gc_F s q 4 = nI o) (ho : o < 8) (hv : gc_I s 24 (cl_num o l.1 l.2.2) = nI v) (h : ∀ t, mvP (mv_best W o l.1 l.2.1 l.2.2) t → mvL W o l.1 l.2.1 l.2.2 t → fr A32 B33 s t → Q (some (.int 1)) t) : gc_T P d 0 0 117 0 [.ref q, gc_u] [] s Q := by
  have hok := hS.1.2.2.2.1
  obtain ⟨h1, h2, h3, h5, h6⟩ := hI K.length l rv_top
  have hlen := wkI_len hI
  rw [List.length_cons] at hlen
  obtain ⟨e1, e2, e3⟩ := hw.2 K.length l rv_top
  refine b_X9_choose_0 hP hm (wq_io hq) ?_
  rw [hw.1, wq_0 hq, wq_1 hq, wq_2 hq, wq_3 hq, List.length_cons, nI_pred, nI_clamp (by omega), h4, e1, e2, e3]
  refine pk_le (K.length + 1) 0 (fun z => by omega) (fun _ => pk_le (K.length + 1) 64 (fun _ => ⟨vp_in_nI (by omega) (by omega), vp_in_nI (by omega) (by omega), vp_in_nI (by omega) (by omega), ⟨by decide, rfl⟩, by omega, ?_⟩) (fun z => by omega))
  refine sp_lookAt hP hm (by omega) hS.1 h1 h2 h3 fun t t1 t2 => ⟨⟨by decide, rfl⟩, by omega, ?_⟩
  have g1 : fr A32 B33 s t := fr_up t2 (fun _ _ z => z) (fun _ z => absurd z (by unfold B0; decide))
  have hSt := mvS_fr hS g1 hA32 hB33
  refine sp_pickBest hP hm (by omega) hSt t1 ho h1 h2 h3 (by rw [fr_I g1 rfl]; exact hv) h5 fun u u1 u2 => ⟨Or.inr rfl, h u u1 (mvL_fr t1 u2) (fr_trans g1 (fr_up u2 (fun _ _ z => A32_iff.mpr (A69_iff.mp z).1) (fun _ z => z)))⟩
/-- the step is done: what it leads to, or that which is answered -/
def wk_to (m : mv_T) (a : Int32) (K : List (Nat × Nat × Nat)) : List (Nat × Nat × Nat) := if mv_ask m = true ∧ a ≠ -1 then (if a = 0 then m.2.1.take 1 else m.2.1.drop 1) ++ K else m.2.1 ++ K
theorem sp_follow (hP : gc_Cl P) (hm : gc_Mo P) (hd : 1 ≤ d) (hq : wq q) {l : Nat × Nat × Nat} {m : mv_T} (hmp : mvP m s) (hw : wkP q (l :: K) s) (hlen : K.length ≤ 60) (h1 : m.1 < 2 ^ 31) (h2 : m.2.1.length ≤ 2) {a : Int32} (ha : mv_ask m = true → a = -1 ∨ a = 0 ∨ a = 1) (h : ∀ t, wkP q (wk_to m a K) t → fr (AV q) (BV q) s t → Q none t) : gc_T P d 0 0 118 0 [.ref q, .int a, gc_u, gc_u] [] s Q := by
  have hio := wq_io hq
  refine b_X9_follow_0 hP hm hio ?_
  rw [hw.1, List.length_cons, nI_pred]
  refine pk_le (K.length + 1) 0 (fun z => by omega) (fun _ => ?_)
  have g0 : fr (AV q) (BV q) s (gc_wF s q 5 (nI K.length)) := fr_wF (AV_iff.mpr ⟨rfl, rfl⟩) (fr_refl s)
  have hw0 : wkP q K (gc_wF s q 5 (nI K.length)) := ⟨F_eq _ _ _ _, fun i l' hi => hw.2 i l' (rv_low hi)⟩
  generalize gc_wF s q 5 (nI K.length) = s0 at g0 hw0
  have keepP : ∀ t, fr (AV q) (BV q) s t → mvP m t := by
    intro t g
    refine ⟨?_, ?_, ?_, ?_, fun i l' hi => ?_⟩
    · rw [fr_F g (bf fun z => by have := AV_iff.mp z; unfold wq at hq; omega)]
      exact hmp.1
    · rw [fr_F g (bf fun z => by have := AV_iff.mp z; unfold wq at hq; omega)]
      exact hmp.2.1
    · rw [fr_F g (bf fun z => by have := AV_iff.mp z; unfold wq at hq; omega)]
      exact hmp.2.2.1
    · rw [fr_F g (bf fun z => by have := AV_iff.mp z; unfold wq at hq; omega)]
      exact hmp.2.2.2.1
    · rw [fr_I g (bf fun z => by have := BV_iff.mp z; unfold wq at hq; omega), fr_I g (bf fun z => by have := BV_iff.mp z; unfold wq at hq; omega), fr_I g (bf fun z => by have := BV_iff.mp z; unfold wq at hq; omega)]
      exact hmp.2.2.2.2 i l' hi
  have op : ∀ t K' i k x, wkP q K' t → fr (AV q) (BV q) s t → K'.length < 64 → i < 2 → m.2.1[i]? = some k → (∀ u, wkP q (k :: K') u → fr (AV q) (BV q) s u → gc_T P d 0 0 118 52 [.ref q, .int a, .int x, .int (nI i + (-1))] [] u Q) → gc_T P d 0 0 118 65 [.ref q, .int a, .int x, .int (nI i)] [] t Q := by
    intro t K' i k x t1 t2 t3 hi hk hn
    obtain ⟨e1, e2, e3⟩ := (keepP t t2).2.2.2.2 i k hk
    refine b_X9_follow_65 hP hm hio ⟨by rw [wq_0 hq]; exact ⟨by decide, rfl⟩, vp_in_nI hi (by decide), vp_in_nI hi (by decide), vp_in_nI hi (by decide), hd, ?_⟩
    rw [wq_0 hq, nI_clamp (by omega), show gc_rS 32 10 = 33 from rfl, show gc_rS 32 11 = 34 from rfl, show gc_rS 32 12 = 35 from rfl, e1, e2, e3]
    exact sp_open hP hm hq t1 t3 fun u u1 u2 => b_X9_follow_96 hP hm hio (hn u u1 (fr_trans t2 u2))
  have don : ∀ t x, Q none t → gc_T P d 0 0 118 52 [.ref q, .int a, .int x, .int (nI 0 + (-1))] [] t Q := fun t x z => b_X9_follow_52 hP hm hio ⟨fun _ => z, fun y => absurd (by decide) y⟩
  have at37 : ∀ (x : Int32), (x = 0 ↔ ¬ (mv_ask m = true ∧ a ≠ -1)) → gc_T P d 0 0 118 37 [.ref q, .int a, gc_u, gc_u] [.int x] s0 Q := by
    intro x hx
    refine b_X9_follow_37 hP hm hio ⟨by rw [wq_0 hq]; exact ⟨by decide, rfl⟩, hd, ?_⟩
    rw [wq_0 hq, (keepP s0 g0).2.2.2.1]
    unfold wk_to at h
    have hask : mv_ask m = true → m.2.1.length = 2 := by
      intro z
      unfold mv_ask at z
      simp only [Bool.and_eq_true, Nat.beq_eq] at z
      exact z.2
    have m10 : nI 1 + (-1) = nI 0 := by decide
    have q1 : (if (2 : Int32) < nI 1 then (2 : Int32) else nI 1) - 1 = nI 0 := by decide
    have q2 : (if (2 : Int32) < nI 2 then (2 : Int32) else nI 2) - 1 = nI 1 := by decide
    generalize hls : m.2.1 = ls at h h2 hask op
    match ls, h2, h, hask, op with
    | [], _, h, hask, op =>
      have h0 : ¬ (mv_ask m = true ∧ a ≠ -1) := fun z => absurd (hask z.1) (by simp)
      rw [if_neg h0] at h
      exact don s0 x (h s0 hw0 g0)
    | [k], _, h, hask, op =>
      have h0 : ¬ (mv_ask m = true ∧ a ≠ -1) := fun z => absurd (hask z.1) (by simp)
      rw [if_neg h0] at h
      show gc_T P d 0 0 118 52 [.ref q, .int a, .int x, .int ((if (2 : Int32) < nI 1 then (2 : Int32) else nI 1) - 1)] [] s0 Q
      rw [q1]
      refine b_X9_follow_52 hP hm hio ⟨fun y => absurd y (by decide), fun _ => ⟨fun _ => ?_, fun y => absurd (hx.mpr h0) y⟩⟩
      exact op s0 K 0 k x hw0 g0 (by omega) (by decide) rfl fun u u1 u2 => don u x (h u u1 u2)
    | [k, j], _, h, hask, op =>
      show gc_T P d 0 0 118 52 [.ref q, .int a, .int x, .int ((if (2 : Int32) < nI 2 then (2 : Int32) else nI 2) - 1)] [] s0 Q
      rw [q2]
      by_cases h0 : mv_ask m = true ∧ a ≠ -1
      · rw [if_pos h0] at h
        have hx0 : ¬ x = 0 := fun z => hx.mp z h0
        rcases ha h0.1 with e | e | e
        · exact absurd e h0.2
        · rw [if_pos e] at h
          refine b_X9_follow_52 hP hm hio ⟨fun y => absurd y (by decide), fun _ => ⟨fun y => absurd y hx0, fun _ => ⟨fun _ => b_X9_follow_96 hP hm hio ?_, fun y => absurd y (by rw [e]; decide)⟩⟩⟩
          rw [m10]
          refine b_X9_follow_52 hP hm hio ⟨fun y => absurd y (by decide), fun _ => ⟨fun y => absurd y hx0, fun _ => ⟨fun y => absurd (by rw [e]; decide) y, fun _ => ?_⟩⟩⟩
          exact op s0 K 0 k x hw0 g0 (by omega) (by decide) rfl fun u u1 u2 => don u x (h u u1 u2)
        · rw [if_neg (by rw [e]; decide)] at h
          refine b_X9_follow_52 hP hm hio ⟨fun y => absurd y (by decide), fun _ => ⟨fun y => absurd y hx0, fun _ => ⟨fun y => absurd (by rw [e]; decide) y, fun _ => ?_⟩⟩⟩
          refine op s0 K 1 j x hw0 g0 (by omega) (by decide) rfl fun u u1 u2 => ?_
          rw [m10]
          refine b_X9_follow_52 hP hm hio ⟨fun y => absurd y (by decide), fun _ => ⟨fun y => absurd y hx0, fun _ => ⟨fun _ => b_X9_follow_96 hP hm hio ?_, fun y => absurd y (by rw [e]; decide)⟩⟩⟩
          exact don u x (h u u1 u2)
      · rw [if_neg h0] at h
        have hx0 := hx.mpr h0
        refine b_X9_follow_52 hP hm hio ⟨fun y => absurd y (by decide), fun _ => ⟨fun _ => ?_, fun y => absurd hx0 y⟩⟩
        refine op s0 K 1 j x hw0 g0 (by omega) (by decide) rfl fun u u1 u2 => ?_
        rw [m10]
        refine b_X9_follow_52 hP hm hio ⟨fun y => absurd y (by decide), fun _ => ⟨fun _ => ?_, fun y => absurd hx0 y⟩⟩
        exact op u (j :: K) 0 k x u1 u2 (by rw [List.length_cons]; omega) (by decide) rfl fun w w1 w2 => don w x (h w w1 w2)
    | _ :: _ :: _ :: _, h2, _, _, _ => simp at h2
  refine b_X9_follow_17 hP hm hio ⟨by rw [wq_0 hq]; exact ⟨by decide, rfl⟩, hd, ?_⟩
  rw [wq_0 hq]
  refine sp_asksAnswer hP hm (keepP s0 g0) h1 h2 ?_
  cases e : mv_ask m with
  | false =>
    refine ⟨fun _ => b_X9_follow_36 hP hm hio (at37 0 ⟨fun _ z => ?_, fun _ => rfl⟩), fun y => absurd rfl y⟩
    rw [e] at z
    exact absurd z.1 (by decide)
  | true =>
    refine ⟨fun y => absurd y (by decide), fun _ => ⟨fun y => b_X9_follow_36 hP hm hio (at37 0 ⟨fun _ z => z.2 y, fun _ => rfl⟩), fun y => at37 1 ⟨fun z => absurd z (by decide), fun z => absurd ⟨e, y⟩ z⟩⟩⟩
end Wk
