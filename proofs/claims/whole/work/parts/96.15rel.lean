/-! Reading a text: what is held of it on both sides. -/
def nok (nl : List (List Nat × Nat × Nat)) : Prop := ∀ e, e ∈ nl → e.2.1 ≤ 3 ∧ e.2.2 < 8 ∧ (e.2.1 = 0 → e.2.2 < 4)
/-- what all there is told comes to -/
def told (W : ld_W) : Nat → Nat
  | 0 => 0
  | g + 1 => told W g + W 11 g * 4 ^ g
/-- the later fault, in the class -/
def sfC (r : Option (Nat × Nat)) (s : gc_St) : Prop := (r = none ∧ gc_F s 3 14 = 0 ∧ gc_F s 3 15 = -1) ∨ ∃ v, r = some v ∧ 1 ≤ v.1 ∧ v.1 < 2 ^ 31 ∧ gc_F s 3 14 = nI v.1 ∧ gc_F s 3 15 = nI v.2
def cnC (W : ld_W) (L : Nat) (s : gc_St) : Prop := gc_F s L 0 = nI (ld_g W) ∧ gc_F s L 1 = nI (ld_o W) ∧ gc_F s L 2 = nI (ld_b W) ∧ gc_F s L 3 = nI (ld_c W) ∧ gc_F s L 4 = nI (ld_p W)
def lwC (W : ld_W) (L : Nat) (s : gc_St) : Prop := cl_law W L s ∧ gc_F s L 5 = nI (told W (ld_g W))
def AcL (L q _k : Nat) : Bool := Nat.beq q 3 || (Nat.beq q 9 || Nat.beq q L)
def BcL (L a : Nat) : Bool := Nat.ble (L + 7) a && Nat.ble a (L + 10)
theorem AcL_iff {L q k : Nat} : AcL L q k = true ↔ q = 3 ∨ q = 9 ∨ q = L := by
  unfold AcL
  rw [Bool.or_eq_true, Bool.or_eq_true, Nat.beq_eq, Nat.beq_eq, Nat.beq_eq]
theorem BcL_iff {L a : Nat} : BcL L a = true ↔ L + 7 ≤ a ∧ a ≤ L + 10 := by
  unfold BcL
  rw [Bool.and_eq_true, Nat.ble_eq, Nat.ble_eq]
def nmsC (nc : List (List Nat × Nat × Nat)) (r : Option (Nat × Nat)) (L m : Nat) (s : gc_St) : Prop := ∃ nx, nmC nx L s ∧ nok nx ∧ nx.length ≤ m ∧ (r = none → nx = nc)
def zB (L m : Nat) (nc : List (List Nat × Nat × Nat)) (s0 : gc_St) (W : ld_W) (r : Option (Nat × Nat)) (o : Nat) (s : gc_St) : Prop :=
  fr (AcL L) (BcL L) s0 s ∧ (gc_F s 3 11 = 1 ∧ gc_F s 3 12 = 0) ∧ sfC r s ∧ (cl_L L ∧ gc_rl s = some L ∧ gc_F s 9 2 = nI o) ∧ cnC W L s ∧ nmsC nc r L m s ∧ (r = none → lwC W L s)
/-- the class: the i-th word is ahead -/
def zC (b : Nat → Nat) (n T L m : Nat) (nc : List (List Nat × Nat × Nat)) (s0 : gc_St) (i : Nat) (W : ld_W) (r : Option (Nat × Nat)) (o : Nat) (s : gc_St) : Prop :=
  cpw b n T i s ∧ (1 ≤ i → gc_F s 3 8 = nI (tk_st b n (i - 1))) ∧ zB L m nc s0 W r o s
/-- the class: a fault that ends it -/
def zFC (L : Nat) (s0 : gc_St) (x p : Nat) (t : gc_St) : Prop := fr (AcL L) (BcL L) s0 t ∧ blm t (nI x) (nI p) ∧ 1 ≤ x ∧ x < 9
/-! the reference -/
def AzR (q k : Nat) : Bool := Nat.beq q 67 && (Nat.ble 12 k && Nat.ble k 17 || (Nat.beq k 46 || Nat.beq k 48))
def BzR (a : Nat) : Bool := Nat.ble 93 a && Nat.ble a 99
theorem AzR_iff {q k : Nat} : AzR q k = true ↔ q = 67 ∧ ((12 ≤ k ∧ k ≤ 17) ∨ k = 46 ∨ k = 48) := by
  unfold AzR
  rw [Bool.and_eq_true, Bool.or_eq_true, Bool.or_eq_true, Bool.and_eq_true, Nat.beq_eq, Nat.beq_eq, Nat.beq_eq, Nat.ble_eq, Nat.ble_eq]
theorem BzR_iff {a : Nat} : BzR a = true ↔ 93 ≤ a ∧ a ≤ 99 := by
  unfold BzR
  rw [Bool.and_eq_true, Nat.ble_eq, Nat.ble_eq]
/-- how much of a row each of the two sides has -/
def wid (a : Nat) : Nat := if a < 76 then 0 else [16, 16, 16, 0, 1, 4, 4, 1, 3, 3, 1, 3, 3, 3, 1, 6, 6, 1, 24, 24, 24].getD (a - 76) 0
/-- the other side's cells stay -/
def kpR (lv : Nat) (s t : gc_St) : Prop := ∀ a k, k < wid a → gc_I t a (wid a * lv + k) = gc_I s a (wid a * lv + k) ∧ gc_J t a (wid a * lv + k) = gc_J s a (wid a * lv + k)
theorem kp_ix {w sd k k' : Nat} (hs : sd < 2) (hk : k < w) (hk' : k' < w) : w * (1 - sd) + k ≠ w * sd + k' := by
  rcases (by omega : sd = 0 ∨ sd = 1) with rfl | rfl
  · simp
    omega
  · simp
    omega
theorem kp_fr {A : Nat → Nat → Bool} {B : Nat → Bool} {lv : Nat} {s0 s t : gc_St} (h : kpR lv s0 s) (g : fr A B s t) (hB : ∀ a, B a = true → wid a = 0) : kpR lv s0 t := by
  intro a k hk
  have e : B a = false := bf fun z => by
    have := hB a z
    omega
  rw [fr_I g e, fr_J g e]
  exact h a k hk
theorem kp_wI {sd : Nat} {s0 s : gc_St} {a k' : Nat} {x : Int32} (hs : sd < 2) (h : kpR (1 - sd) s0 s) (hk : k' < wid a) : kpR (1 - sd) s0 (gc_wI s a (wid a * sd + k') x) := by
  intro a2 k hk2
  refine ⟨?_, (h a2 k hk2).2⟩
  rw [I_ne]
  · exact (h a2 k hk2).1
  · by_cases e : a2 = a
    · refine Or.inr ?_
      rw [e] at hk2 ⊢
      exact kp_ix hs hk2 hk
    · exact Or.inl e
theorem kp_wI0 {lv : Nat} {s0 s : gc_St} {a j : Nat} {x : Int32} (h : kpR lv s0 s) (hw : wid a = 0) : kpR lv s0 (gc_wI s a j x) := by
  intro a2 k hk2
  refine ⟨?_, (h a2 k hk2).2⟩
  rw [I_ne]
  · exact (h a2 k hk2).1
  · refine Or.inl fun e => ?_
    rw [e] at hk2
    omega
theorem kp_wJ {sd : Nat} {s0 s : gc_St} {a k' : Nat} {x : Int64} (hs : sd < 2) (h : kpR (1 - sd) s0 s) (hk : k' < wid a) : kpR (1 - sd) s0 (gc_wJ s a (wid a * sd + k') x) := by
  intro a2 k hk2
  refine ⟨(h a2 k hk2).1, ?_⟩
  rw [J_ne]
  · exact (h a2 k hk2).2
  · by_cases e : a2 = a
    · refine Or.inr ?_
      rw [e] at hk2 ⊢
      exact kp_ix hs hk2 hk
    · exact Or.inl e
theorem kp_wF {lv : Nat} {s0 s : gc_St} {q k : Nat} {x : Int32} (h : kpR lv s0 s) : kpR lv s0 (gc_wF s q k x) := h
def cnR (W : ld_W) (sd : Nat) (s : gc_St) : Prop := gc_I s 80 sd = nI (ld_g W) ∧ gc_I s 83 sd = nI (ld_o W) ∧ gc_I s 86 sd = nI (ld_b W) ∧ gc_I s 90 sd = nI (ld_c W) ∧ gc_I s 93 sd = nI (ld_p W)
def lwR (W : ld_W) (lv : Nat) (s : gc_St) : Prop :=
  (∀ g, g < ld_g W → gc_I s 81 (4 * lv + g) = nI (ld_pr W g) ∧ gc_I s 82 (4 * lv + g) = nI (W 11 g)) ∧
  (∀ k, k < ld_o W → gc_I s 84 (3 * lv + k) = nI (ld_tk W k) ∧ gc_I s 85 (3 * lv + k) = nI (ld_gv W k)) ∧
  (∀ k, k < ld_b W → gc_I s 87 (3 * lv + k) = nI (ld_tk W (3 + k)) ∧ gc_I s 88 (3 * lv + k) = nI (ld_gv W (3 + k)) ∧ gc_I s 89 (3 * lv + k) = ld_oI (ld_ot W (3 + k))) ∧
  (∀ c, c < ld_c W → gc_I s 91 (6 * lv + c) = nI (ld_wo W c) ∧ gc_I s 92 (6 * lv + c) = nI (ld_ro W c)) ∧
  (∀ p, p < ld_p W → gc_I s 94 (24 * lv + p) = nI (ld_kd W p) ∧ gc_I s 95 (24 * lv + p) = ld_fI W p ∧ gc_I s 96 (24 * lv + p) = ld_sI W p)
def nmsR (nr : List (List Nat × Nat × Nat)) (r : Option (Nat × Nat)) (sd m : Nat) (s : gc_St) : Prop := ∃ nx, nmR nx sd s ∧ gc_F s 67 21 = nI (16 * sd + nx.length) ∧ nok nx ∧ nx.length ≤ m ∧ (r = none → nx = nr)
def zS (sd m : Nat) (nr : List (List Nat × Nat × Nat)) (s0 : gc_St) (W : ld_W) (r : Option (Nat × Nat)) (o : Nat) (s : gc_St) : Prop :=
  (fr AzR BzR s0 s ∧ kpR (1 - sd) s0 s) ∧ (gc_F s 67 14 = 0 ∧ gc_F s 67 43 = 0) ∧ (sd < 2 ∧ gc_F s 67 20 = nI sd ∧ gc_F s 67 13 = nI o) ∧ mwr r s ∧ cnR W sd s ∧ nmsR nr r sd m s ∧ (r = none → lwR W sd s)
def zR (b : Nat → Nat) (n T sd m : Nat) (nr : List (List Nat × Nat × Nat)) (s0 : gc_St) (i : Nat) (W : ld_W) (r : Option (Nat × Nat)) (o : Nat) (s : gc_St) : Prop :=
  rpw b n T i s ∧ zS sd m nr s0 W r o s
def zFR (sd : Nat) (s0 : gc_St) (x p : Nat) (t : gc_St) : Prop := (fr AzR BzR s0 t ∧ kpR (1 - sd) s0 t) ∧ mbl t (nI x) (nI p) ∧ (1 ≤ x ∧ x < 9) ∧ vp_in (gc_F t 67 12) 403
/-! what stays when only the words go on -/
theorem sfC_of {r : Option (Nat × Nat)} {s t : gc_St} (h : sfC r s) (h1 : gc_F t 3 14 = gc_F s 3 14) (h2 : gc_F t 3 15 = gc_F s 3 15) : sfC r t := by
  unfold sfC at h ⊢
  rw [h1, h2]
  exact h
theorem nmC_of {nx : List (List Nat × Nat × Nat)} {L : Nat} {s t : gc_St} (h : nmC nx L s) (h1 : gc_F t L 6 = gc_F s L 6) (h2 : gc_J t (gc_rS L 17) = gc_J s (gc_rS L 17)) (h3 : gc_I t (gc_rS L 18) = gc_I s (gc_rS L 18)) : nmC nx L t := by
  unfold nmC at h ⊢
  rw [h1, h2, h3]
  exact h
theorem cL_ne {L : Nat} (h : cl_L L) : L ≠ 3 ∧ L ≠ 9 ∧ L ≠ 67 ∧ L ≠ 1 := by
  rcases h with rfl | rfl <;> decide
theorem zB_fr {A : Nat → Nat → Bool} {L m : Nat} {nc : List (List Nat × Nat × Nat)} {s0 s t : gc_St} {W : ld_W} {r : Option (Nat × Nat)} {o : Nat} (h : zB L m nc s0 W r o s) (g : fr A B0 s t) (hA : ∀ q k, A q k = true → q = 3 ∧ k ≤ 10) : zB L m nc s0 W r o t := by
  obtain ⟨h1, ⟨h2, h3⟩, h4, ⟨h5, h6, h7⟩, h8, ⟨nx, h9, h10, h11, h12⟩, h13⟩ := h
  have hF : ∀ q k, (q = 3 → 10 < k) → gc_F t q k = gc_F s q k := fun q k e => fr_F g (bf fun z => by
    have := hA q k z
    have := e this.1
    omega)
  have hI : ∀ a, gc_I t a = gc_I s a := fun a => fr_I g rfl
  have hJ : ∀ a, gc_J t a = gc_J s a := fun a => fr_J g rfl
  have hn := cL_ne h5
  have hL : ∀ k, gc_F t L k = gc_F s L k := fun k => hF L k (fun e => absurd e hn.1)
  refine ⟨fr_trans h1 (fr_up g (fun q k z => AcL_iff.mpr (Or.inl (hA q k z).1)) (fun a z => absurd z (by unfold B0; decide))), ⟨?_, ?_⟩, sfC_of h4 (hF 3 14 (fun _ => by decide)) (hF 3 15 (fun _ => by decide)), ⟨h5, (fr_rl g).trans h6, (hF 9 2 (fun e => absurd e (by decide))).trans h7⟩, ?_, ⟨nx, nmC_of h9 (hL 6) (hJ _) (hI _), h10, h11, h12⟩, fun z => ?_⟩
  · exact (hF 3 11 (fun _ => by decide)).trans h2
  · exact (hF 3 12 (fun _ => by decide)).trans h3
  · unfold cnC at h8 ⊢
    rw [hL 0, hL 1, hL 2, hL 3, hL 4]
    exact h8
  · obtain ⟨z1, z2⟩ := h13 z
    exact ⟨cl_law_of (funext hL) (fun j => hI _) z1, (hL 5).trans z2⟩
theorem mwr_of {r : Option (Nat × Nat)} {s t : gc_St} (h : mwr r s) (h1 : gc_F t 67 16 = gc_F s 67 16) (h2 : gc_F t 67 17 = gc_F s 67 17) : mwr r t := by
  unfold mwr at h ⊢
  rw [h1, h2]
  exact h
theorem nmR_of {nx : List (List Nat × Nat × Nat)} {sd : Nat} {s t : gc_St} (h : nmR nx sd s) (h1 : gc_J t 76 = gc_J s 76) (h2 : gc_I t 77 = gc_I s 77) (h3 : gc_I t 78 = gc_I s 78) : nmR nx sd t := by
  unfold nmR at h ⊢
  rw [h1, h2, h3]
  exact h
theorem lwR_of {W : ld_W} {lv : Nat} {s t : gc_St} (h : lwR W lv s) (hI : ∀ a, 80 ≤ a → a ≤ 96 → gc_I t a = gc_I s a) : lwR W lv t := by
  unfold lwR at h ⊢
  rw [hI 81 (by decide) (by decide), hI 82 (by decide) (by decide), hI 84 (by decide) (by decide), hI 85 (by decide) (by decide), hI 87 (by decide) (by decide), hI 88 (by decide) (by decide), hI 89 (by decide) (by decide), hI 91 (by decide) (by decide), hI 92 (by decide) (by decide), hI 94 (by decide) (by decide), hI 95 (by decide) (by decide), hI 96 (by decide) (by decide)]
  exact h
theorem cnR_of {W : ld_W} {lv : Nat} {s t : gc_St} (h : cnR W lv s) (hI : ∀ a, 80 ≤ a → a ≤ 96 → gc_I t a = gc_I s a) : cnR W lv t := by
  unfold cnR at h ⊢
  rw [hI 80 (by decide) (by decide), hI 83 (by decide) (by decide), hI 86 (by decide) (by decide), hI 90 (by decide) (by decide), hI 93 (by decide) (by decide)]
  exact h
/-- only words, stacks go on -/
theorem zS_fr {A : Nat → Nat → Bool} {B : Nat → Bool} {sd m : Nat} {nr : List (List Nat × Nat × Nat)} {s0 s t : gc_St} {W : ld_W} {r : Option (Nat × Nat)} {o : Nat} (h : zS sd m nr s0 W r o s) (g : fr A B s t) (hA : ∀ q k, A q k = true → q = 67 ∧ (k = 12 ∨ k = 46 ∨ k = 48)) (hB : ∀ a, B a = true → 97 ≤ a ∧ a ≤ 99) : zS sd m nr s0 W r o t := by
  obtain ⟨⟨h1, h0⟩, ⟨h2, h3⟩, ⟨h4, h5, h6⟩, h7, h8, ⟨nx, h9, h10, h11, h12, h14⟩, h13⟩ := h
  have hF : ∀ k, k ≠ 12 → k ≠ 46 → k ≠ 48 → gc_F t 67 k = gc_F s 67 k := fun k e1 e2 e3 => fr_F g (bf fun z => by
    have := (hA 67 k z).2
    omega)
  have hI : ∀ a, a < 97 → gc_I t a = gc_I s a := fun a e => fr_I g (bf fun z => by
    have := hB a z
    omega)
  have hJ : gc_J t 76 = gc_J s 76 := fr_J g (bf fun z => by
    have := hB 76 z
    omega)
  refine ⟨⟨fr_trans h1 (fr_up g (fun q k z => AzR_iff.mpr ⟨(hA q k z).1, by have := (hA q k z).2; omega⟩) (fun a z => BzR_iff.mpr (by have := hB a z; omega))), kp_fr h0 g (fun a z => ?_)⟩, ⟨(hF 14 (by decide) (by decide) (by decide)).trans h2, (hF 43 (by decide) (by decide) (by decide)).trans h3⟩, ⟨h4, (hF 20 (by decide) (by decide) (by decide)).trans h5, (hF 13 (by decide) (by decide) (by decide)).trans h6⟩, mwr_of h7 (hF 16 (by decide) (by decide) (by decide)) (hF 17 (by decide) (by decide) (by decide)), cnR_of h8 (fun a _ z => hI a (by omega)), ⟨nx, nmR_of h9 hJ (hI 77 (by decide)) (hI 78 (by decide)), (hF 21 (by decide) (by decide) (by decide)).trans h10, h11, h12, h14⟩, fun z => lwR_of (h13 z) (fun a _ z2 => hI a (by omega))⟩
  have := hB a z
  have key : ∀ a, a < 100 → 97 ≤ a → wid a = 0 := by decide
  exact key a (by omega) (by omega)
