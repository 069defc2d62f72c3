/-! TOKENS of a row of bytes, as both sides find them. -/
/-- as far as a property holds -/
def tk_run (p : Nat → Bool) : Nat → Nat → Nat
  | 0, i => i
  | f + 1, i => if p i = true then tk_run p f (i + 1) else i
theorem tk_run_ge {p : Nat → Bool} : ∀ (f i : Nat), i ≤ tk_run p f i ∧ tk_run p f i ≤ i + f
  | 0, i => ⟨Nat.le_refl _, Nat.le_refl _⟩
  | f + 1, i => by
    unfold tk_run
    split
    · have := tk_run_ge (p := p) f (i + 1)
      omega
    · omega
theorem tk_run_all {p : Nat → Bool} : ∀ (f i j : Nat), i ≤ j → j < tk_run p f i → p j = true
  | 0, i, j, h1, h2 => by
    unfold tk_run at h2
    omega
  | f + 1, i, j, h1, h2 => by
    unfold tk_run at h2
    split at h2
    · rename_i hp
      by_cases e : j = i
      · rw [e]; exact hp
      · exact tk_run_all f (i + 1) j (by omega) h2
    · omega
theorem tk_run_end {p : Nat → Bool} : ∀ (f i : Nat), tk_run p f i < i + f → p (tk_run p f i) = false
  | 0, i, h => by
    unfold tk_run at h
    omega
  | f + 1, i, h => by
    unfold tk_run at h ⊢
    split at h
    · rename_i hp
      rw [if_pos hp]
      exact tk_run_end f (i + 1) (by omega)
    · rename_i hp
      rw [if_neg hp]
      simpa using hp
/-- behind blanks, behind letters, behind digits -/
def tk_skp (b : Nat → Nat) (n i : Nat) : Nat := tk_run (fun j => tk_B (nI (b j))) (n - i) i
def tk_eL (b : Nat → Nat) (n i : Nat) : Nat := tk_run (fun j => tk_L (nI (b j))) (n - i) i
def tk_eD (b : Nat → Nat) (n i : Nat) : Nat := tk_run (fun j => tk_D (nI (b j))) (n - i) i
def tk_end (b : Nat → Nat) (n i : Nat) : Nat := if tk_L (nI (b i)) = true then tk_eL b n i else if tk_D (nI (b i)) = true then tk_eD b n i else i + 1
/-- where the t-th TOKEN's search begins, where it stands -/
def tk_pos (b : Nat → Nat) (n : Nat) : Nat → Nat
  | 0 => 0
  | t + 1 => tk_end b n (tk_skp b n (tk_pos b n t))
def tk_st (b : Nat → Nat) (n t : Nat) : Nat := tk_skp b n (tk_pos b n t)
/-- the reference's kinds of signs -/
def tk_sg (c : Nat) : Int32 := if c = 59 then 4 else if c = 40 then 6 else if c = 41 then 7 else if c = 43 then 8 else if c = 42 then 9 else if c = 61 then 10 else if c = 91 then 11 else if c = 93 then 12 else 3
/-- kind, value and name of the TOKEN at a place, in the reference's numbers -/
def tk_kd (kw : Nat → Nat) (b : Nat → Nat) (n i : Nat) : Int32 :=
  if n ≤ i then 0 else if tk_L (nI (b i)) = true then (if tk_eL b n i - i ≤ 7 then tk_kw kw (tk_nm 27 b i (min (tk_eL b n i - i) 8)) 1 10 else if tk_eL b n i - i ≤ 8 then 1 else 3)
  else if tk_D (nI (b i)) = true then (if tk_eD b n i - i ≤ 4 then 2 else 3) else tk_sg (b i)
def tk_vl (b : Nat → Nat) (n i : Nat) : Int32 := if n ≤ i then 0 else if tk_L (nI (b i)) = true then 0 else if tk_D (nI (b i)) = true then nI (tk_nu b i (min (tk_eD b n i - i) 4)) else 0
def tk_na (b : Nat → Nat) (n i : Nat) : Nat := if n ≤ i then 0 else if tk_L (nI (b i)) = true then tk_nm 27 b i (min (tk_eL b n i - i) 8) else 0
def tk_mix {α : Type} (t : Nat) (f g : Nat → α) : Nat → α := fun j => if j < t then f j else g j
theorem tk_mix_up {t : Nat} {f g : Nat → Int32} : upd (tk_mix t f g) t (f t) = tk_mix (t + 1) f g := by
  funext j
  unfold upd tk_mix
  by_cases e : j = t
  · subst e; rw [if_pos rfl, if_pos (by omega)]
  · rw [if_neg e]
    by_cases e2 : j < t
    · rw [if_pos e2, if_pos (by omega)]
    · rw [if_neg e2, if_neg (by omega)]
theorem tk_mix_upL {t : Nat} {f g : Nat → Int64} : vp_updL (tk_mix t f g) t (f t) = tk_mix (t + 1) f g := by
  funext j
  unfold vp_updL tk_mix
  by_cases e : j = t
  · subst e; rw [if_pos rfl, if_pos (by omega)]
  · rw [if_neg e]
    by_cases e2 : j < t
    · rw [if_pos e2, if_pos (by omega)]
    · rw [if_neg e2, if_neg (by omega)]
/-- the reference's rows of TOKENS with the first t of them -/
def tk_can (t : Nat) (kf pf vf : Nat → Int32) (nf : Nat → Int64) (s : gc_St) : gc_St :=
  (va_up s.1 67 (va_up (s.1 67) 11 (nI t)), va_up (va_up (va_up s.2.1 71 (tk_mix t kf (s.2.1 71))) 72 (tk_mix t pf (s.2.1 72))) 73 (tk_mix t vf (s.2.1 73)), va_up s.2.2.1 74 (tk_mix t nf (s.2.2.1 74)), s.2.2.2)
theorem tk_can_step {t : Nat} {kf pf vf : Nat → Int32} {nf : Nat → Int64} {s : gc_St} : gc_wF (gc_wJ (gc_wI (gc_wI (gc_wI (tk_can t kf pf vf nf s) 71 t (kf t)) 72 t (pf t)) 73 t (vf t)) 74 t (nf t)) 67 11 (nI t + 1) = tk_can (t + 1) kf pf vf nf s := by
  refine Prod.ext ?_ (Prod.ext ?_ (Prod.ext ?_ rfl))
  · funext q
    show va_up (va_up s.1 67 (va_up (s.1 67) 11 (nI t))) 67 (va_up (va_up s.1 67 (va_up (s.1 67) 11 (nI t)) 67) 11 (nI t + 1)) q = va_up s.1 67 (va_up (s.1 67) 11 (nI (t + 1))) q
    rw [nI_1]
    by_cases e : q = 67
    · subst e
      funext k
      unfold va_up
      by_cases e2 : k = 11
      · simp [e2]
      · simp [e2]
    · unfold va_up
      simp [e]
  · funext a
    show va_up (va_up (va_up (tk_can t kf pf vf nf s).2.1 71 _) 72 _) 73 _ a = va_up (va_up (va_up s.2.1 71 (tk_mix (t + 1) kf (s.2.1 71))) 72 (tk_mix (t + 1) pf (s.2.1 72))) 73 (tk_mix (t + 1) vf (s.2.1 73)) a
    rw [← tk_mix_up, ← tk_mix_up, ← tk_mix_up]
    by_cases e1 : a = 73
    · subst e1; rfl
    · by_cases e2 : a = 72
      · subst e2; rfl
      · by_cases e3 : a = 71
        · subst e3; rfl
        · simp [va_up, tk_can, e1, e2, e3]
  · funext a
    show va_up (va_up s.2.2.1 74 (tk_mix t nf (s.2.2.1 74))) 74 (vp_updL (tk_mix t nf (s.2.2.1 74)) t (nf t)) a = va_up s.2.2.1 74 (tk_mix (t + 1) nf (s.2.2.1 74)) a
    rw [tk_mix_upL]
    by_cases e : a = 74
    · subst e; rfl
    · simp [va_up, e]
section Tk
variable {P : gc_Pr} {d : Nat} {s : gc_St} {Q : gc_TQ}
theorem sp_token (hP : gc_Cl P) (hm : gc_Mo P) {t : Nat} {kf pf vf : Nat → Int32} {nf : Nat → Int64} {k p v : Int32} {nm : Int64} (ht : t < 403) (hk : k = kf t) (hp : p = pf t) (hv : v = vf t) (hn : nm = nf t) (h : Q none (tk_can (t + 1) kf pf vf nf s)) :
    gc_T P d 0 0 181 0 [.ref 67, .int k, .int p, .int v, .long nm, gc_u] [] (tk_can t kf pf vf nf s) Q := by
  subst hk; subst hp; subst hv; subst hn
  have hF : gc_F (tk_can t kf pf vf nf s) 67 11 = nI t := rfl
  refine b_X11_token_0 hP hm ?_
  rw [hF, nI_clamp (by omega)]
  refine ⟨vp_in_nI ht (by omega), vp_in_nI ht (by omega), vp_in_nI ht (by omega), vp_in_nI ht (by omega), ?_⟩
  rw [tk_can_step]
  exact h
end Tk
