/-! The reference: what can be shown together. -/
theorem lw_bit : ∀ S, S < 64 → S ≠ 0 → ∃ c, c < 6 ∧ S % 2 ^ c = 0 ∧ S / 2 ^ c % 2 = 1 := by decide +kernel
theorem lw_low : ∀ S, S < 64 → ∀ c, c < 6 → S % 2 ^ c = 0 → ∀ j, j < c → S / 2 ^ j % 2 ≠ 1 := by decide +kernel
theorem lw_off : ∀ S, S < 64 → ∀ c, c < 6 → S / 2 ^ c % 2 = 1 → nI S &&& (((1 : Int32) <<< (nI c &&& 31)) ^^^ (-1)) = nI (S - 2 ^ c) := by decide +kernel
theorem lw_ge : ∀ S, S < 64 → ∀ c, c < 7 → S < 2 ^ c → ∀ j, j < 6 → S / 2 ^ j % 2 = 1 → j < c := by decide +kernel
/-- the cell of a set, a STOCK, BARGAINS -/
def ac (S st b : Nat) : Nat := 2048 * S + 8 * st + b
section Ra
variable {P : gc_Pr} {d : Nat} {s : gc_St} {Q : gc_TQ} {W : ld_W} {lv o p st b kc : Nat} {h : Nat × Nat × Nat}
theorem sp_mlowest (hP : gc_Cl P) (hm : gc_Mo P) {S c : Nat} (hS : S < 64) (hc : c < 6) (h0 : S % 2 ^ c = 0) (h1 : S / 2 ^ c % 2 = 1) (hQ : Q (some (.int (nI c))) s) : gc_T P d 0 0 274 0 [.ref 67, .int (nI S), gc_u] [] s Q := by
  refine b_X11_lowest_0 hP hm ?_
  have key : ∀ m j, j + m = c → gc_T P d 0 0 274 2 [.ref 67, .int (nI S), .int (nI j)] [] s Q := by
    intro m
    induction m with
    | zero =>
      intro j hj
      obtain rfl : j = c := by omega
      refine b_X11_lowest_2 hP hm ?_
      rw [st_bitI (by omega) (by omega)]
      exact ⟨fun _ => hQ, fun z => absurd h1 z⟩
    | succ m ih =>
      intro j hj
      refine b_X11_lowest_2 hP hm ?_
      rw [st_bitI (by omega) (by omega)]
      refine ⟨fun z => absurd (lw_low S hS c hc h0 j (by omega)) z, fun _ => ?_⟩
      rw [nI_1]
      exact ih (j + 1) (by omega)
  exact key c 0 (by omega)
/-- what the table tells of one set -/
def cT (W : ld_W) (o : Nat) (h : Nat × Nat × Nat) (S : Nat) (s : gc_St) : Prop := ∀ st b, st < ld_N W → st_in st h.1 = true → b < 2 ^ ld_b W → (gc_I s 110 (ac S st b) ≠ 0 ↔ cA W o S st b)
theorem st_in_tr {a b c : Nat} (h1 : st_in a b = true) (h2 : st_in b c = true) : st_in a c = true := by
  rw [st_in_iff] at *
  omega
theorem sp_firstPart (hP : gc_Cl P) (hm : gc_Mo P) (hd : 2 ≤ d) (hT : rw_T W lv o s) {S c : Nat} (hS : S < 2 ^ ld_c W) (hc : c < ld_c W) (h0 : S % 2 ^ c = 0) (h1 : S / 2 ^ c % 2 = 1) (hcT : cT W o h (S - 2 ^ c) s) (hst : st < ld_N W) (hsh : st_in st h.1 = true) (hb : b < 2 ^ ld_b W)
    (hQ : ∀ k, fpL W o c S st b k → Q (some (.int (nI k))) s) (hN : (∀ k, ¬ fpP W o c S st b k) → Q (some (.int (-1))) s) :
    gc_T P d 0 0 275 0 [.ref 67, .int (nI S), .int (nI st), .int (nI b), gc_u, gc_u, gc_u, gc_u, gc_u] [] s Q := by
  have hok := hT.1.1.2.2
  have hc6 := hok.1.2.2.2.1
  have hN256 := ld_N_le hok
  have hb8 := p8 hok.1.2.2.1 hb
  have hS64 : S < 64 := Nat.lt_of_lt_of_le hS (Nat.le_trans (Nat.pow_le_pow_right (by decide) hc6) (by decide))
  have hr := ld_root hok hc
  refine b_X11_firstPart_0 hP hm ⟨by omega, sp_mlowest hP hm hS64 (by omega) h0 h1 ?_⟩
  show gc_T P d 0 0 275 20 [.ref 67, .int (nI S), .int (nI st), .int (nI b), .int (nI c), .int (nI S &&& (((1 : Int32) <<< (nI c &&& 31)) ^^^ (-1))), .int 0, gc_u, gc_u] [] s Q
  rw [lw_off S hS64 c (by omega) h1]
  have outer : ∀ m x, x + m = st + 1 → ∀ l7 l8 : Value, (∀ j, j < 8 * x → ¬ fpP W o c S st b j) → gc_T P d 0 0 275 20 [.ref 67, .int (nI S), .int (nI st), .int (nI b), .int (nI c), .int (nI (S - 2 ^ c)), .int (nI x), l7, l8] [] s Q := by
    intro m
    induction m with
    | zero =>
      intro x hx l7 l8 hno
      refine b_X11_firstPart_20 hP hm (pk_lt st x (fun _ => hN fun k hk => ?_) (fun z => by omega))
      have := st_in_le (show st < 256 by omega) hk.2.1 hk.1
      exact hno k (by omega) hk
    | succ m ih =>
      intro x hx l7 l8 hno
      have leave : ∀ l7 (l8 : Value), (∀ j, j < 8 * (x + 1) → ¬ fpP W o c S st b j) → gc_T P d 0 0 275 114 [.ref 67, .int (nI S), .int (nI st), .int (nI b), .int (nI c), .int (nI (S - 2 ^ c)), .int (nI x), .int l7, l8] [] s Q := by
        intro l7 l8 h1
        refine b_X11_firstPart_114 hP hm ?_
        rw [nI_1]
        exact ih (x + 1) (by omega) _ _ h1
      refine b_X11_firstPart_20 hP hm (pk_lt st x (fun z => by omega) (fun _ => ⟨by omega, sp_less hP hm (show st < 256 by omega) (show x < 256 by omega) ?_⟩))
      unfold st_less
      cases hin : st_in x st with
      | false =>
        rw [if_neg (by decide)]
        refine ⟨fun y => absurd rfl y, fun _ => leave _ _ fun j hj z => ?_⟩
        by_cases e : j < 8 * x
        · exact hno j e z
        · have z1 := z.1
          rw [show j / 8 = x by omega, hin] at z1
          exact absurd z1 (by decide)
      | true =>
        rw [if_pos rfl]
        refine ⟨fun _ => ?_, fun y => absurd y (m1_ne (by omega))⟩
        have inner : ∀ m2 dd, dd + m2 = b + 1 → (∀ j, j < 8 * x + dd → ¬ fpP W o c S st b j) → gc_T P d 0 0 275 46 [.ref 67, .int (nI S), .int (nI st), .int (nI b), .int (nI c), .int (nI (S - 2 ^ c)), .int (nI x), .int (nI (st - x)), .int (nI dd)] [] s Q := by
          intro m2
          induction m2 with
          | zero =>
            intro dd hdd hno2
            refine b_X11_firstPart_46 hP hm (pk_lt b dd (fun _ => leave _ _ fun j hj => ?_) (fun z => by omega))
            by_cases e : j < 8 * x + dd
            · exact hno2 j e
            · intro z
              have := (sb_le b hb8 (j % 8) (by omega) z.2.2.1).1
              omega
          | succ m2 ih2 =>
            intro dd hdd hno2
            have next : ¬ fpP W o c S st b (8 * x + dd) → gc_T P d 0 0 275 108 [.ref 67, .int (nI S), .int (nI st), .int (nI b), .int (nI c), .int (nI (S - 2 ^ c)), .int (nI x), .int (nI (st - x)), .int (nI dd)] [] s Q := by
              intro h1
              refine b_X11_firstPart_108 hP hm ?_
              rw [nI_1]
              refine ih2 (dd + 1) (by omega) fun j hj => ?_
              by_cases e : j = 8 * x + dd
              · rw [e]
                exact h1
              · exact hno2 j (by omega)
            have hfp : fpP W o c S st b (8 * x + dd) ↔ st_in x st = true ∧ x < 256 ∧ sb_in dd b = true ∧ dp_D W o (ld_ro W c) x dd ≠ 0 ∧ cA W o (S - 2 ^ c) (st - x) (b - dd) := by
              unfold fpP
              rw [show (8 * x + dd) / 8 = x by omega, show (8 * x + dd) % 8 = dd by omega]
            refine b_X11_firstPart_46 hP hm (pk_lt b dd (fun z => by omega) (fun _ => ?_))
            rw [st_subI dd (by omega) b hb8]
            refine ⟨fun z => next fun z3 => z (hfp.mp z3).2.2.1, fun hdb => ⟨by omega, ?_⟩⟩
            have hDm := dp_D_max (o := o) hok hr.1 (show x < ld_N W by omega) (show dd < 8 by omega)
            refine sp_claimDepth hP hm (by omega) hT hc (show x < ld_N W by omega) (show dd < 2 ^ ld_b W by omega) (pk_le (dp_D W o (ld_ro W c) x dd) 0 (fun hD => next fun z3 => (hfp.mp z3).2.2.2.1 (by omega)) (fun hD => ?_))
            have hi : 2048 * (S - 2 ^ c) + 8 * (st - x) + b - dd = ac (S - 2 ^ c) (st - x) (b - dd) := by
              unfold ac
              omega
            have hilt : ac (S - 2 ^ c) (st - x) (b - dd) < 131072 := by
              unfold ac
              omega
            have hsub := st_sub_in st (by omega) x (by omega) hin
            have hcell := hcT (st - x) (b - dd) (by omega) (st_in_tr hsub hsh) (by omega)
            rw [st_lit 2048, st_lit 8, pk_mul, pk_mul, nI_add, nI_add, pk_sub (by omega), hi, nI_clamp (by omega)]
            refine ⟨vp_in_nI hilt (by decide), fun e => next fun z3 => (hcell.mpr (hfp.mp z3).2.2.2.2) e, fun e => ?_⟩
            rw [pk_mul, nI_add]
            exact hQ (8 * x + dd) ⟨hfp.mpr ⟨hin, by omega, hdb, by omega, hcell.mp e⟩, hno2⟩
        exact inner (b + 1) 0 (by omega) (fun j hj => hno j (by omega))
  exact outer (st + 1) 0 (by omega) _ _ (fun j hj => absurd hj (by omega))
end Ra
