/-! The reference: the step of THE SHOWING, walks. -/
def rqh (h : Nat × Nat × Nat) (s : gc_St) : Prop := gc_F s 67 49 = nI h.1 ∧ gc_F s 67 50 = nI h.2.1 ∧ gc_F s 67 51 = nI h.2.2
/-- what the reference's queries stand on -/
def rq (W : ld_W) (lv : Nat) (h : Nat × Nat × Nat) (s : gc_St) : Prop := rf_law W lv s ∧ rft W s ∧ rqh h s ∧ h.1 < ld_N W ∧ h.2.1 < 2 ^ ld_o W ∧ h.2.2 < 2 ^ ld_b W
theorem rq_b {W : ld_W} {lv : Nat} {h : Nat × Nat × Nat} {s : gc_St} (hq : rq W lv h s) : h.2.1 < 8 ∧ h.2.2 < 8 ∧ ld_ok W := ⟨p8 hq.1.1.2.2.1.2.1 hq.2.2.2.2.1, p8 hq.1.1.2.2.1.2.2.1 hq.2.2.2.2.2, hq.1.1.2.2⟩
theorem rqh_fr {h : Nat × Nat × Nat} {s t : gc_St} (hq : rqh h s) (g : fr RA RB s t) : rqh h t := ⟨(fr_F g rfl).trans hq.1, (fr_F g rfl).trans hq.2.1, (fr_F g rfl).trans hq.2.2⟩
/-- the table for these OATHS is there -/
def rw_T (W : ld_W) (lv o : Nat) (s : gc_St) : Prop := rf_law W lv s ∧ gc_F s 67 53 = nI o ∧ rtt W o s
theorem rw_fr {A : Nat → Nat → Bool} {B : Nat → Bool} {W : ld_W} {lv o : Nat} {s t : gc_St} (h : rw_T W lv o s) (g : fr A B s t) (hA : ∀ q k, A q k = true → RA q k = true) (hB : ∀ a, B a = true → RB a = true) (h53 : A 67 53 = false) (h100 : B 100 = false) : rw_T W lv o t := by
  refine ⟨rf_RA h.1 (fr_up g hA hB), (fr_F g h53).trans h.2.1, fun p st b hp hst hb => ?_⟩
  rw [fr_I g h100]
  exact h.2.2 p st b hp hst hb
theorem rw_54 {W : ld_W} {lv o : Nat} {s t : gc_St} (h : rw_T W lv o s) (g : fr (Am 54) BM s t) : rw_T W lv o t := rw_fr h g (fun _ _ z => RA_iff.mpr (by have := Am_iff.mp z; omega)) (fun _ z => RB_iff.mpr (by have := BM_iff.mp z; omega)) rfl rfl
theorem rft_of {W : ld_W} {lv o : Nat} {s : gc_St} (ho : o < 8) (h : rw_T W lv o s) : rft W s := ⟨nI o, h.2.1, Or.inr ⟨o, ho, rfl, h.2.2⟩⟩
theorem rq_of {W : ld_W} {lv o : Nat} {h : Nat × Nat × Nat} {s t : gc_St} (ho : o < 8) (hq : rq W lv h s) (ht : rw_T W lv o t) (g : fr RA RB s t) : rq W lv h t := ⟨ht.1, rft_of ho ht, rqh_fr hq.2.2.1 g, hq.2.2.2⟩
/-- the pile -/
def AP (q k : Nat) : Bool := Nat.beq q 67 && (Nat.beq k 54 || Nat.beq k 60)
def BP (a : Nat) : Bool := Nat.ble 101 a && Nat.ble a 106
theorem AP_iff {q k : Nat} : AP q k = true ↔ q = 67 ∧ (k = 54 ∨ k = 60) := by
  unfold AP
  simp only [Bool.and_eq_true, Bool.or_eq_true, Nat.beq_eq]
theorem BP_iff {a : Nat} : BP a = true ↔ 101 ≤ a ∧ a ≤ 106 := by
  unfold BP
  simp only [Bool.and_eq_true, Nat.ble_eq]
theorem AP_54 {s t : gc_St} (g : fr (Am 54) BM s t) : fr AP BP s t := fr_up g (fun _ _ z => AP_iff.mpr (by have := Am_iff.mp z; omega)) (fun _ z => BP_iff.mpr (by have := BM_iff.mp z; omega))
theorem AP_60 {s t : gc_St} (g : fr (Am 60) (Bm 106) s t) : fr AP BP s t := fr_up g (fun _ _ z => AP_iff.mpr (by have := Am_iff.mp z; omega)) (fun _ z => BP_iff.mpr (by have := Bm_iff.mp z; omega))
theorem RA_AP {s t : gc_St} (g : fr AP BP s t) : fr RA RB s t := fr_up g (fun _ _ z => RA_iff.mpr (by have := AP_iff.mp z; omega)) (fun _ z => RB_iff.mpr (by have := BP_iff.mp z; omega))
theorem rw_AP {W : ld_W} {lv o : Nat} {s t : gc_St} (h : rw_T W lv o s) (g : fr AP BP s t) : rw_T W lv o t := rw_fr h g (fun _ _ z => RA_iff.mpr (by have := AP_iff.mp z; omega)) (fun _ z => RB_iff.mpr (by have := BP_iff.mp z; omega)) rfl rfl
def mP (f a : Nat) (K : List (Nat × Nat × Nat)) (s : gc_St) : Prop := gc_F s 67 f = nI K.length ∧ ∀ i l, K.reverse[i]? = some l → gc_I s a i = nI (spt l)
theorem mP_fr {A : Nat → Nat → Bool} {B : Nat → Bool} {f a : Nat} {K : List (Nat × Nat × Nat)} {s t : gc_St} (h : mP f a K s) (g : fr A B s t) (hA : A 67 f = false) (hB : B a = false) : mP f a K t := by
  refine ⟨(fr_F g hA).trans h.1, fun i l hi => ?_⟩
  rw [fr_I g hB]
  exact h.2 i l hi
theorem mvR_fr {A : Nat → Nat → Bool} {B : Nat → Bool} {ls : List mv_T} {s t : gc_St} (h : mvR ls s) (g : fr A B s t) (hA : A 67 54 = false) (hB : ∀ a, 101 ≤ a → a ≤ 105 → B a = false) : mvR ls t := by
  refine ⟨(fr_F g hA).trans h.1, fun i l hi => ?_⟩
  rw [fr_I g (hB 101 (by decide) (by decide)), fr_I g (hB 102 (by decide) (by decide)), fr_I g (hB 103 (by decide) (by decide)), fr_I g (hB 104 (by decide) (by decide)), fr_I g (hB 105 (by decide) (by decide))]
  exact h.2 i l hi
section Rw
variable {P : gc_Pr} {d : Nat} {s : gc_St} {Q : gc_TQ} {W : ld_W} {lv o p st b : Nat} {h : Nat × Nat × Nat} {K : List (Nat × Nat × Nat)}
/-- what a MOVE leads to lies in the table -/
theorem mv_in (hok : ld_ok W) (hp : p < ld_p W) (hst : st < ld_N W) (hb : b < 2 ^ ld_b W) {m : mv_T} (hmv : m ∈ mv_all W o p st b) : m.2.1.length ≤ 2 ∧ ∀ l, l ∈ m.2.1 → l.1 < ld_p W ∧ l.2.1 < ld_N W ∧ l.2.2 < 2 ^ ld_b W ∧ spt l < 49152 := by
  have hb8 := p8 hok.1.2.2.1 hb
  have h1 := mv_ld hok hp hst hb8 hmv
  have hN := ld_N_le hok
  have hp24 := hok.1.2.2.2.2
  refine ⟨h1.1, fun l hl => ?_⟩
  obtain ⟨g1, g2, g3, g4, g5⟩ := h1.2 l hl
  have := (sb_le b hb8 l.2.2 g4 g5).1
  refine ⟨by omega, g3, by omega, ?_⟩
  exact sp3_lt (p := l.1) (s := l.2.1) (b := l.2.2) (by omega) (by omega) g4
theorem sp_depthBy (hP : gc_Cl P) (hm : gc_Mo P) (hd : 1 ≤ d) (hT : rw_T W lv o s) {ls : List mv_T} (hls : mvR ls s) {i : Nat} {m : mv_T} (hi : ls[i]? = some m) (hi2 : i < 2060) (hin : m.2.1.length ≤ 2 ∧ ∀ l, l ∈ m.2.1 → l.1 < ld_p W ∧ l.2.1 < ld_N W ∧ l.2.2 < 2 ^ ld_b W ∧ spt l < 49152) (hQ : Q (some (.int (nI (dp_by W o m)))) s) : gc_T P d 0 0 249 0 [.ref 67, .int (nI i), gc_u] [] s Q := by
  have hok := hT.1.1.2.2
  obtain ⟨_, e2, e3, _, _⟩ := hls.2 i m hi
  have hD : ∀ l, l ∈ m.2.1 → dp_D W o l.1 l.2.1 l.2.2 ≤ 92160 := fun l hl => dp_D_max hok (hin.2 l hl).1 (hin.2 l hl).2.1 (p8 hok.1.2.2.1 (hin.2 l hl).2.2.1)
  have hg : ∀ l, l ∈ m.2.1 → gc_I s 100 (spt l) = nI (dp_D W o l.1 l.2.1 l.2.2) := fun l hl => hT.2.2 l.1 l.2.1 l.2.2 (hin.2 l hl).1 (hin.2 l hl).2.1 (hin.2 l hl).2.2.1
  have hv : vp_in (nI i) 2060 := vp_in_nI hi2 (by decide)
  refine b_X11_depthBy_0 hP hm ?_
  rw [nI_clamp (by omega), e2, e3]
  unfold mtI meI
  unfold dp_by at hQ
  obtain ⟨hlen, hin2⟩ := hin
  generalize m.2.1 = ls at hlen hin2 hD hg hQ
  match ls, hlen, hin2, hD, hg, hQ with
  | [], _, _, _, _, hQ => exact ⟨hv, fun y => absurd rfl y, fun _ => hQ⟩
  | [l], _, hin2, hD, hg, hQ =>
    have h1 := (hin2 l (by simp)).2.2.2
    have h2 := hD l (by simp)
    refine ⟨hv, fun _ => ⟨hv, vp_in_nI h1 (by decide), hv, fun y => absurd rfl y, fun _ => ⟨hd, ?_⟩⟩, fun y => absurd y (m1_ne (by omega))⟩
    show gc_T P (d - 1) 0 0 234 0 [.int (gc_I s 100 (nI (spt l)).toNatClampNeg)] [] s _
    rw [nI_clamp (by omega), hg l (by simp)]
    exact sp_one hP hm (by omega) hQ
  | [l, k], _, hin2, hD, hg, hQ =>
    have h1 := (hin2 l (by simp)).2.2.2
    have h2 := hD l (by simp)
    have h3 := (hin2 k (by simp)).2.2.2
    have h4 := hD k (by simp)
    refine ⟨hv, fun _ => ⟨hv, vp_in_nI h1 (by decide), hv, fun _ => ⟨hv, vp_in_nI h3 (by decide), hd, ?_⟩, fun y => absurd y (m1_ne (by omega))⟩, fun y => absurd y (m1_ne (by omega))⟩
    show gc_T P (d - 1) 0 0 235 0 [.int (gc_I s 100 (nI (spt l)).toNatClampNeg), .int (gc_I s 100 (nI (spt k)).toNatClampNeg)] [] s _
    rw [nI_clamp (by omega), nI_clamp (by omega), hg l (by simp), hg k (by simp)]
    exact sp_both hP hm (by omega) (by omega) hQ
  | _ :: _ :: _ :: _, hlen, _, _, _, _ => simp at hlen
/-- a place as one number -/
theorem sp3_dec {p st b : Nat} (hp : p < 24) (hst : st < 256) (hb : b < 8) : nI (sp3 p st b) / 2048 = nI p ∧ (nI (sp3 p st b) - nI (sp3 p st b) / 2048 * 2048) / 8 = nI st ∧ nI (sp3 p st b) - nI (sp3 p st b) / 8 * 8 = nI b := by
  have := sp3_lt hp hst hb
  rw [show (2048 : Int32) = nI 2048 from rfl, show (8 : Int32) = nI 8 from rfl, pk_rem (by omega) (by decide) (by decide), pk_rem (by omega) (by decide) (by decide), pk_div (by omega) (by decide) (by decide), pk_div (Nat.lt_trans (Nat.mod_lt _ (by decide)) (by decide)) (by decide) (by decide)]
  unfold sp3
  rw [show (2048 * p + 8 * st + b) / 2048 = p by omega, show (2048 * p + 8 * st + b) % 2048 / 8 = st by omega, show (2048 * p + 8 * st + b) % 8 = b by omega]
  exact ⟨rfl, rfl, rfl⟩
theorem sp_bestAt (hP : gc_Cl P) (hm : gc_Mo P) (hd : 4 ≤ d) (hT : rw_T W lv o s) (ho : o < 8) (hp : p < ld_p W) (hst : st < ld_N W) (hb : b < 2 ^ ld_b W) (hD : dp_D W o p st b ≠ 0) (hQ : ∀ t, mvR (mv_all W o p st b) t → fr (Am 54) BM s t → Q (some (.int (nI (mv_bi W o p st b)))) t) : gc_T P d 0 0 250 0 [.ref 67, .int (nI (sp3 p st b)), gc_u] [] s Q := by
  have hok := hT.1.1.2.2
  have hp24 := hok.1.2.2.2.2
  have hN := ld_N_le hok
  have hb8 := p8 hok.1.2.2.1 hb
  have hsp := sp3_lt (show p < 24 by omega) (show st < 256 by omega) hb8
  obtain ⟨c1, c2, c3⟩ := sp3_dec (show p < 24 by omega) (show st < 256 by omega) hb8
  obtain ⟨b1, b2, b3⟩ := mv_best_at (o := o) hok hp hst hb8 hD
  have hlt := mv_bi_lt (o := o) hok hp hst hb8 hD
  have hle := mv_all_le (o := o) (p := p) hok hst hb8
  have hDm := dp_D_max (o := o) hok hp hst hb8
  refine b_X11_bestAt_0 hP hm ⟨by omega, ?_⟩
  rw [c2, c3, c1]
  refine sp_fillMoves hP hm (by omega) hT.1 ho hT.2.1 hp hst hb fun t t1 t2 => ?_
  have hTt := rw_54 hT t2
  have key : ∀ n i, i + n = mv_bi W o p st b → gc_T P d 0 0 250 23 [.ref 67, .int (nI (sp3 p st b)), .int (nI i)] [] t Q := by
    intro n
    induction n with
    | zero =>
      intro i hi
      obtain rfl : i = mv_bi W o p st b := by omega
      refine b_X11_bestAt_23 hP hm ⟨by omega, sp_depthBy hP hm (by omega) hTt t1 b1 (by omega) (mv_in hok hp hst hb b2) ⟨vp_in_nI hsp (by omega), fun _ => hQ t t1 t2, fun y => ?_⟩⟩
      refine absurd ?_ y
      rw [nI_clamp (by omega), hTt.2.2 p st b hp hst hb, b3]
    | succ n ih =>
      intro i hi
      have hil : i < (mv_all W o p st b).length := by omega
      have hmi := List.getElem?_eq_getElem hil
      have hmem : (mv_all W o p st b)[i] ∈ mv_all W o p st b := List.getElem_mem hil
      have hne := mv_bi_min (i := i) (by omega) hmi
      have hby := dp_by_le (o := o) hok hp hst hb8 hmem
      refine b_X11_bestAt_23 hP hm ⟨by omega, sp_depthBy hP hm (by omega) hTt t1 hmi (by omega) (mv_in hok hp hst hb hmem) ⟨vp_in_nI hsp (by omega), fun y => ?_, fun _ => ?_⟩⟩
      · rw [nI_clamp (by omega), hTt.2.2 p st b hp hst hb, nI_eq (by omega) (by omega)] at y
        exact absurd y hne
      · rw [nI_1]
        exact ih (i + 1) (by omega)
  exact key (mv_bi W o p st b) 0 (by omega)
theorem sp_piles (hP : gc_Cl P) (hm : gc_Mo P) (hw : mP 60 106 K s) (hlen : K.length < 80) {l : Nat × Nat × Nat} (hQ : ∀ t, mP 60 106 (l :: K) t → fr (Am 60) (Bm 106) s t → Q none t) : gc_T P d 0 0 253 0 [.ref 67, .int (nI (spt l))] [] s Q := by
  refine b_X11_piles_0 hP hm ?_
  rw [hw.1, nI_clamp (by omega)]
  refine ⟨vp_in_nI hlen (by decide), ?_⟩
  rw [nI_1]
  refine hQ _ ⟨F_eq _ _ _ _, fun i k hi => ?_⟩ (fr_wF rfl (fr_wI rfl (fr_refl s)))
  rw [rw_I_wF]
  rcases rv_or hi with e | ⟨rfl, rfl⟩
  · have hne : i ≠ K.length := by
      have := (List.getElem?_eq_some_iff.mp e).1
      rw [List.length_reverse] at this
      omega
    rw [I_ne _ _ (Or.inr hne)]
    exact hw.2 i k e
  · rw [I_eq]
/-- the walk's places in the reference's range -/
def wkB (W : ld_W) (K : List (Nat × Nat × Nat)) : Prop := ∀ l, l ∈ K → l.2.2 < 2 ^ ld_b W
theorem sp_shows (hP : gc_Cl P) (hm : gc_Mo P) (hd : 5 ≤ d) (hT : rw_T W lv o s) (ho : o < 8) {l : Nat × Nat × Nat} (hw : mP 60 106 (l :: K) s) (hI : wkI W o (l :: K)) (hB : wkB W (l :: K))
    (hQ : ∀ t, rw_T W lv o t → mP 60 106 ((mv_best W o l.1 l.2.1 l.2.2).2.1 ++ K) t → mvR (mv_all W o l.1 l.2.1 l.2.2) t → fr AP BP s t → Q (some (.int (nI (mv_bi W o l.1 l.2.1 l.2.2)))) t) : gc_T P d 0 0 254 0 [.ref 67, gc_u] [] s Q := by
  have hok := hT.1.1.2.2
  obtain ⟨h1, h2, h3, h4, _⟩ := hI K.length l rv_top
  have hlb := hB l List.mem_cons_self
  have hlen := wkI_len hI
  rw [List.length_cons] at hlen
  have hle := mv_all_le (o := o) (p := l.1) hok h2 h3
  have hlt := mv_bi_lt (o := o) hok h1 h2 h3 h4
  obtain ⟨b1, b2, b3⟩ := mv_best_at (o := o) hok h1 h2 h3 h4
  obtain ⟨c1, c2⟩ := mv_in hok h1 h2 hlb b2
  refine b_X11_shows_0 hP hm ?_
  rw [hw.1, List.length_cons, nI_pred, nI_clamp (by omega), hw.2 K.length l rv_top]
  refine ⟨vp_in_nI (by omega) (by omega), by omega, ?_⟩
  have g0 : fr (Am 60) (Bm 106) s (gc_wF s 67 60 (nI K.length)) := fr_wF rfl (fr_refl s)
  have w0 : mP 60 106 K (gc_wF s 67 60 (nI K.length)) := ⟨F_eq _ _ _ _, fun i k hi => hw.2 i k (rv_low hi)⟩
  have T0 := rw_AP hT (AP_60 g0)
  refine sp_bestAt hP hm (by omega) T0 ho h1 h2 hlb h4 fun t t1 t2 => ?_
  have g1 := fr_trans (AP_60 g0) (AP_54 t2)
  have w1 := mP_fr w0 t2 rfl rfl
  obtain ⟨_, e2, e3, _, _⟩ := t1.2 _ _ b1
  have hv : vp_in (nI (mv_bi W o l.1 l.2.1 l.2.2)) 2060 := vp_in_nI (by omega) (by decide)
  refine ⟨hv, ?_⟩
  rw [nI_clamp (by omega), e3]
  have fin : ∀ u, fr AP BP s u → mvR (mv_all W o l.1 l.2.1 l.2.2) u → (∀ r, fr AP BP s r → mvR (mv_all W o l.1 l.2.1 l.2.2) r → mP 60 106 ((mv_best W o l.1 l.2.1 l.2.2).2.1 ++ K) r → Q (some (.int (nI (mv_bi W o l.1 l.2.1 l.2.2)))) r) → (mtI (mv_best W o l.1 l.2.1 l.2.2) = -1 → mP 60 106 ((mv_best W o l.1 l.2.1 l.2.2).2.1 ++ K) u) → (∀ k rest, (mv_best W o l.1 l.2.1 l.2.2).2.1 = k :: rest → mP 60 106 (rest ++ K) u) → gc_T P d 0 0 254 44 [.ref 67, .int (nI (mv_bi W o l.1 l.2.1 l.2.2))] [] u Q := by
    intro u gu ru q1 q2 q3
    obtain ⟨_, e2, _, _, _⟩ := ru.2 _ _ b1
    refine b_X11_shows_44 hP hm ⟨hv, ?_⟩
    rw [nI_clamp (by omega), e2]
    refine ⟨fun y => q1 u gu ru (q2 y), fun y => ⟨hv, by omega, ?_⟩⟩
    cases hls : (mv_best W o l.1 l.2.1 l.2.2).2.1 with
    | nil =>
      refine absurd ?_ y
      unfold mtI
      rw [hls]
    | cons k rest =>
      have e4 : mtI (mv_best W o l.1 l.2.1 l.2.2) = nI (spt k) := by
        unfold mtI
        rw [hls]
      rw [e4]
      rw [hls] at q1 c1
      have hrl : rest.length ≤ 1 := by
        rw [List.length_cons] at c1
        omega
      refine sp_piles hP hm (q3 k rest hls) (by rw [List.length_append]; omega) fun r r1 r2 => ?_
      exact q1 r (fr_trans gu (AP_60 r2)) (mvR_fr ru r2 rfl (fun a h1 h2 => bf fun z => by have := Bm_iff.mp z; omega)) r1
  have q1 : ∀ r, fr AP BP s r → mvR (mv_all W o l.1 l.2.1 l.2.2) r → mP 60 106 ((mv_best W o l.1 l.2.1 l.2.2).2.1 ++ K) r → Q (some (.int (nI (mv_bi W o l.1 l.2.1 l.2.2)))) r := fun r r1 r2 r3 => hQ r (rw_AP hT r1) r3 r2 r1
  cases hls : (mv_best W o l.1 l.2.1 l.2.2).2.1 with
  | nil =>
    have e4 : meI (mv_best W o l.1 l.2.1 l.2.2) = -1 := by
      unfold meI
      rw [hls]
    rw [e4]
    rw [hls] at fin q1
    exact ⟨fun _ => fin t g1 t1 q1 (fun _ => w1) (fun k rest e => by simp at e), fun y => absurd rfl y⟩
  | cons k rest =>
    cases hr : rest with
    | nil =>
      rw [hr] at hls
      have e4 : meI (mv_best W o l.1 l.2.1 l.2.2) = -1 := by
        unfold meI
        rw [hls]
      have e5 : mtI (mv_best W o l.1 l.2.1 l.2.2) = nI (spt k) := by
        unfold mtI
        rw [hls]
      have hk := (c2 k (by rw [hls]; simp)).2.2.2
      rw [e4]
      refine ⟨fun _ => fin t g1 t1 q1 (fun y => ?_) (fun k' rest' e => ?_), fun y => absurd rfl y⟩
      · rw [e5] at y
        exact absurd y (m1_ne (by omega))
      · rw [hls] at e
        simp only [List.cons.injEq] at e
        rw [← e.2]
        exact w1
    | cons j r2 =>
      rw [hr] at hls
      have e4 : meI (mv_best W o l.1 l.2.1 l.2.2) = nI (spt j) := by
        unfold meI
        rw [hls]
      have e5 : mtI (mv_best W o l.1 l.2.1 l.2.2) = nI (spt k) := by
        unfold mtI
        rw [hls]
      have hk := (c2 k (by rw [hls]; simp)).2.2.2
      have hj := (c2 j (by rw [hls]; simp)).2.2.2
      have hr2 : r2 = [] := by
        rw [hls] at c1
        cases r2 with
        | nil => rfl
        | cons a b =>
          simp only [List.length_cons] at c1
          omega
      rw [e4]
      refine ⟨fun y => absurd y (m1_ne (by omega)), fun _ => ⟨hv, by omega, sp_piles hP hm w1 (by omega) fun r r1 r2' => ?_⟩⟩
      refine fin r (fr_trans g1 (AP_60 r2')) (mvR_fr t1 r2' rfl (fun a h1 h2 => bf fun z => by have := Bm_iff.mp z; omega)) q1 (fun y => ?_) (fun k' rest' e => ?_)
      · rw [e5] at y
        exact absurd y (m1_ne (by omega))
      · rw [hls, hr2] at e
        simp only [List.cons.injEq] at e
        rw [← e.2]
        exact r1
theorem wkB_step (hok : ld_ok W) {l : Nat × Nat × Nat} (hI : wkI W o (l :: K)) (hB : wkB W (l :: K)) {k : Nat × Nat × Nat} (hk : k ∈ (mv_best W o l.1 l.2.1 l.2.2).2.1 ∨ k ∈ K) : k.2.2 < 2 ^ ld_b W := by
  rcases hk with hk | hk
  · obtain ⟨h1, h2, h3, h4⟩ := wkI_mem hI List.mem_cons_self
    obtain ⟨_, b2, _⟩ := mv_best_at (o := o) hok h1 h2 h3 h4
    exact ((mv_in hok h1 h2 (hB l List.mem_cons_self) b2).2 k hk).2.2.1
  · exact hB k (List.mem_cons_of_mem _ hk)
end Rw
