/-! read: a law that is taken, by the class; and the call. -/
theorem told_lt {W : ld_W} : ∀ g, (∀ k, k < g → W 11 k ≤ 3) → told W g < 4 ^ g
  | 0, _ => Nat.one_pos
  | g + 1, h => by
    have h1 := told_lt g (fun k hk => h k (Nat.lt_succ_of_lt hk))
    have h2 : W 11 g * 4 ^ g ≤ 3 * 4 ^ g := Nat.mul_le_mul_right _ (h g (Nat.lt_succ_self g))
    show told W g + W 11 g * 4 ^ g < 4 ^ (g + 1)
    rw [Nat.pow_succ]
    omega
section Xs
variable {P : gc_Pr} {d : Nat} {s s1 t u : gc_St} {a : gA} {L lv v : Nat} {W : ld_W} {nl : List (List Nat × Nat × Nat)} {h : Nat × Nat × Nat}
theorem CI_new (hC : CI a L v s1) (g : fr (Ard (65 - L)) (Brd (65 - L)) s1 t) (c1 : gc_F t 1 1 = 0) (c2 : gc_F t 0 12 = -1) (hnm : nmC nl (65 - L) t) (ga : ad (65 - L) t u) (hW : cl_C W (65 - L) u) (hr : cl_rows W (v + 1) u) (hv : v + 1 < 2 ^ 31) (hh : gc_F u 49 0 = nI h.1 ∧ gc_F u 49 1 = nI h.2.1 ∧ gc_F u 49 2 = nI h.2.2) (ho : hok W h) (hs : ∀ k, k < 3 → gc_F u (51 + k) 3 = 0) (h40 : gc_F u 40 5 = 0) (h28 : gc_F u 28 16 = 0) (h45 : gc_F u 45 3 = 0) : CI (W, nl, 0, h, fun _ => none, [], ako a, none, -1) (65 - L) (v + 1) u := by
  obtain ⟨h1, ⟨h2, h3, h4⟩, h5, h6, ⟨h7, h8, h9⟩, h10, h11, h12, h13, h14⟩ := hC
  have hL := h1.1.1.1
  obtain ⟨a1, a2, a3, a4, ⟨a5, a6, a7, a8, a9⟩, a10, a11⟩ := ga
  have h11' : 65 - L = 11 ∨ 65 - L = 54 := by rcases hL with e | e <;> omega
  have aF : ∀ q k, ¬ ((q = 10 ∧ k = 1) ∨ (q = 49 ∧ k ≤ 2) ∨ (51 ≤ q ∧ q ≤ 53 ∧ k = 3) ∨ (q = 40 ∧ k = 5) ∨ (q = 28 ∧ k = 16) ∨ (q = 45 ∧ k = 3)) → gc_F u q k = gc_F t q k := fun q k z => a1 q k (bf fun y => z (Aad_iff.mp y))
  have hgk : ∀ q, gc_gk u q = gc_gk s1 q := fun q => by
    rw [← fr_gk g q]
    unfold gc_gk
    rw [a10, a11]
  have hbe : gc_be u = gc_be s1 := a9.trans (fr_be g)
  have h18 : gc_rS (65 - L) 18 ≠ 27 := by rcases h11' with e | e <;> rw [e] <;> decide
  refine ⟨⟨⟨hW, hr⟩, hv, hh, ho⟩, ⟨nmC_of hnm (aF _ _ (by omega)) (by rw [a3]) (a2 _ h18), fun k hk => ?_, ?_⟩, (aF 1 1 (by omega)).trans c1, fun k hk => Or.inl ⟨rfl, hs k hk⟩, ⟨⟨h40, fun i l hl => absurd (show (none : Option (Nat × Nat × Nat)) = some l from hl) (by simp)⟩, ?_, fun l hl => (List.not_mem_nil (show l ∈ ([] : List (Nat × Nat × Nat)) from hl)).elim⟩, Or.inl ⟨rfl, h28⟩, (aF 0 12 (by omega)).trans c2, ?_, fun z => absurd h45 z, ?_⟩
  · rw [a3, fr_J g (bf fun z => by have := Brd_iff.mp z; omega)]
    exact h3 k hk
  · rw [a7, fr_lw g, h1.1.1.2.1]
    rcases hL with e | e <;> omega
  · exact (aF 40 4 (by omega)).trans ((fr_F g (bf fun z => by have := Ard_iff.mp z; omega)).trans h8)
  · unfold bev at h12 ⊢
    rw [hbe, hgk]
    exact h12
  · unfold cnt at h14 ⊢
    rw [a10, a4, hbe, fr_n g, fr_Y g]
    exact h14
theorem XI_rd {pl : Int32} (hX : XI a L lv v s1) (g : fr (Ard (65 - L)) (Brd (65 - L)) s1 t) (c1 : gc_F t 1 1 = 0) (c2 : gc_F t 0 12 = pl) (g2 : fr Arf Brf t u) (kp : kpR lv t u) (r1 : gc_F u 67 3 = 0) (r2 : gc_F u 67 18 = pl) : XI (setA a 0 (ah a) (asl a) (aps a) pl) L lv v u := by
  obtain ⟨hA, hC, hR, hT⟩ := hX
  have hL := hC.1.1.1.1
  have k1 : kR s1 t := kR_fr g (fun q k z => by have := Ard_iff.mp z; rcases hL with e | e <;> omega) (fun x z => by have := Brd_iff.mp z; rcases hL with e | e <;> omega)
  refine ⟨⟨by show 0 ≤ 2000; omega, hA.2⟩, CI_kC (CI_rd hC g c1 c2) (fr_up g2 (fun q k z => AR_iff.mpr (Arf_iff.mp z).1) (fun x z => BR_iff.mpr (by have := Brf_iff.mp z; omega))), RI_rd (RI_kR hR k1) g2 kp r1 r2, fun j hj => absurd hj (Nat.not_lt_zero j)⟩
theorem c_read (hP : gc_Cl P) (hm : gc_Mo P) (hd : 71 ≤ d) (hv : v + 1 < 2 ^ 31) (hX : XI a L lv v s) : step2 P d v s 123 [.ref 0, gc_u] 190 [.ref 67, gc_u] := by
  obtain ⟨hA, hC, hR, hT⟩ := id hX
  have hL := hC.1.1.1.1
  have hL' : cl_L (65 - L) := by
    rcases hL with e | e
    · rw [e]
      exact Or.inr rfl
    · rw [e]
      exact Or.inl rfl
  have hlv : lv < 2 := hR.1.1.1.1
  obtain ⟨res, hres⟩ := rd_ex (b := txt (an a) s) (n := an a) (L := 65 - L) (sd := 1 - lv) hA.1 (fun j => txt_lt j)
  have hX1 : XI a L lv v (gc_wrl s (some (65 - L))) := hX
  have hC1 : CI a L v (gc_wrl s (some (65 - L))) := hC
  have hR1 : RI a lv (gc_wrl s (some (65 - L))) := hR
  have kA : ∀ t, fr (Ard (65 - L)) (Brd (65 - L)) (gc_wrl s (some (65 - L))) t → kR (gc_wrl s (some (65 - L))) t := fun t g => kR_fr g (fun q k z => by have := Ard_iff.mp z; rcases hL with e | e <;> omega) (fun x z => by have := Brd_iff.mp z; rcases hL with e | e <;> omega)
  have hn1 : ∀ t, fr (Ard (65 - L)) (Brd (65 - L)) (gc_wrl s (some (65 - L))) t → gc_n t = gc_n s := fun t g => (fr_n g : gc_n t = gc_n (gc_wrl s (some (65 - L))))
  refine ⟨0, 0, by decide, sp_readC hP hm (by omega) hres hL' hC.2.1.2.2 hA.1 (txt_C hT) (fun j => txt_lt j) hC.2.2.1 hC.2.1.2.1 (fun t x p he g c1 c2 x1 x9 => ⟨_, rfl, hn1 t g, ?_⟩) (fun t e w he hw g c1 c2 => ⟨_, rfl, hn1 t g, ?_⟩) (fun t e he hw g c1 c2 hlw hnm => ?_)⟩
  · have k1 := kA t g
    have hRt := RI_kR hR1 k1
    obtain ⟨t1, t2⟩ := txt_R (n := an a) (s := s) (t := t) (k1.2 69 (by decide) (by decide)).1 (k1.2 70 (by decide) (by decide)).1
    refine sp_readR hP hm (by omega) hres hlv hRt.1.1.1.2.1 hA.1 hRt.2.2.1 (fun j hj => by rw [(k1.2 69 (by decide) (by decide)).1]; exact (hT j hj).2) t1 t2 hRt.2.1.2.2.2 (fun u x' p' he' g2 kp r1 r2 => ?_) (fun u e' w' he' _ => ?_) (fun u e' he' _ => ?_)
    · rw [he] at he'
      have ee : (x, p) = (x', p') := by simpa using he'
      obtain ⟨rfl, rfl⟩ := Prod.mk.injEq .. ▸ ee
      exact xR_of (XI_rd hX1 g c1 c2 g2 kp r1 r2) (fr_n g2)
    · rw [he] at he'
      exact absurd he' (by simp)
    · rw [he] at he'
      exact absurd he' (by simp)
  · have k1 := kA t g
    have hRt := RI_kR hR1 k1
    obtain ⟨t1, t2⟩ := txt_R (n := an a) (s := s) (t := t) (k1.2 69 (by decide) (by decide)).1 (k1.2 70 (by decide) (by decide)).1
    refine sp_readR hP hm (by omega) hres hlv hRt.1.1.1.2.1 hA.1 hRt.2.2.1 (fun j hj => by rw [(k1.2 69 (by decide) (by decide)).1]; exact (hT j hj).2) t1 t2 hRt.2.1.2.2.2 (fun u x' p' he' => ?_) (fun u e' w' he' hw' g2 kp r1 r2 => ?_) (fun u e' he' hw' => ?_)
    · rw [he] at he'
      exact absurd he' (by simp)
    · rw [he] at he'
      have ee : e = e' := by simpa using he'
      rw [← ee, hw] at hw'
      have ew : w = w' := by simpa using hw'
      rw [← ew] at r2 ⊢
      exact xR_of (XI_rd hX1 g c1 c2 g2 kp r1 r2) (fr_n g2)
    · rw [he] at he'
      have ee : e = e' := by simpa using he'
      rw [← ee, hw] at hw'
      exact absurd hw' (by simp)
  · have hI := hres.1
    rw [he] at hI
    obtain ⟨n1, n2, n3, n4⟩ := hI.2.2 hw
    have hrw : cl_rows (aW a) v t := cl_rows_fr hC1.1.1.2 g (bf fun z => by have := Ard_iff.mp z; rcases hL with e | e <;> omega) (fun x hx => bf fun z => by have := Brd_iff.mp z; rcases hL with e | e <;> omega) hC.1.1.1.2.2.2.1.1.2.2.2.2
    have ho : hok e.2.1 (told e.2.1 (ld_g e.2.1), 2 ^ ld_o e.2.1 - 1, 2 ^ ld_b e.2.1 - 1) := ⟨told_lt _ n4, Nat.sub_lt (Nat.pow_pos (by decide)) (by decide), Nat.sub_lt (Nat.pow_pos (by decide)) (by decide)⟩
    refine sp_adoptDraft (W0 := aW a) hP hm (by omega) hL' ((fr_dr g).trans hC.2.1.2.2) hlw.1 n3 hrw hv (fun u ga u1 u2 u3 u4 u5 u6 u7 => ⟨_, rfl, ga.2.2.2.2.2.1.trans (hn1 t g), ?_⟩)
    have hCu := CI_new hC1 g c1 c2 hnm ga u1 u2 hv (h := (told e.2.1 (ld_g e.2.1), 2 ^ ld_o e.2.1 - 1, 2 ^ ld_b e.2.1 - 1)) ⟨u3.1.trans hlw.2, u3.2.1, u3.2.2⟩ ho u4 u5 u6 u7
    have k2 : kR t u := ⟨fun k => ga.1 67 k (bf fun z => by have := Aad_iff.mp z; omega), fun x h1 _ => ⟨ga.2.1 x (by omega), by rw [ga.2.2.1]⟩⟩
    have k1 := kA t g
    have hRu := RI_kR (RI_kR hR1 k1) k2
    have e69 : gc_I u 69 = gc_I s 69 := (k2.2 69 (by decide) (by decide)).1.trans (k1.2 69 (by decide) (by decide)).1
    have e70 : gc_I u 70 = gc_I s 70 := (k2.2 70 (by decide) (by decide)).1.trans (k1.2 70 (by decide) (by decide)).1
    obtain ⟨t1, t2⟩ := txt_R (n := an a) (s := s) (t := u) e69 e70
    refine sp_readR hP hm (by omega) hres hlv hRu.1.1.1.2.1 hA.1 hRu.2.2.1 (fun j hj => by rw [e69]; exact (hT j hj).2) t1 t2 hRu.2.1.2.2.2 (fun w x' p' he' => ?_) (fun w e' w' he' hw' => ?_) (fun w e' he' hw' g2 r1 r2 r3 r4 r5 r6 => ?_)
    · rw [he] at he'
      exact absurd he' (by simp)
    · rw [he] at he'
      have ee : e = e' := by simpa using he'
      rw [← ee, hw] at hw'
      exact absurd hw' (by simp)
    · rw [he] at he'
      have ee : e = e' := by simpa using he'
      rw [← ee] at r3 r4 r5
      have hRn := RI_new hRu g2 hlv n3 r1 r2 r3 r4 (h := (told e.2.1 (ld_g e.2.1), 2 ^ ld_o e.2.1 - 1, 2 ^ ld_b e.2.1 - 1)) ⟨r5.1, r5.2.1, r5.2.2.1⟩ ho r5.2.2.2 r6
      refine ⟨rfl, fr_n g2, (e.2.1, e.2.2.2, 0, (told e.2.1 (ld_g e.2.1), 2 ^ ld_o e.2.1 - 1, 2 ^ ld_b e.2.1 - 1), fun _ => none, [], ako a, none, -1), 65 - L, 1 - lv, v + 1, Nat.le_refl _, ⟨by show 0 ≤ 2000; omega, n1, n2, fun k h z => absurd (show (none : Option (Nat × Nat × Nat)) = some h from z) (by simp), fun i l hl => absurd (show (none : Option (Nat × Nat × Nat)) = some l from hl) (by simp), hA.2.2.2.2.2.1, fun l hl => (List.not_mem_nil (show l ∈ ([] : List (Nat × Nat × Nat)) from hl)).elim⟩, CI_kC hCu (fr_up g2 (fun q k z => AR_iff.mpr (Arg_iff.mp z).1) (fun x z => BR_iff.mpr (by have := Brg_iff.mp z; omega))), hRn, fun j hj => absurd hj (Nat.not_lt_zero j)⟩
end Xs
