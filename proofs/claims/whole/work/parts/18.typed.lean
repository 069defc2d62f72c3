/-! The machine behind the constructors: the heap by what its cells mean. -/
/-- ints in objects; ints in rows; longs in rows; the rows' row; the long; the law; the draft; the reader's law; the best; how many rows have come; their lengths -/
abbrev gc_St : Type := (Nat → Nat → Int32) × (Nat → Nat → Int32) × (Nat → Nat → Int64) × (Nat → Option Nat) × Int64 × Nat × Nat × Option Nat × Nat × Nat × (Nat → Nat)
def gc_F (s : gc_St) : Nat → Nat → Int32 := s.1
def gc_I (s : gc_St) : Nat → Nat → Int32 := s.2.1
def gc_J (s : gc_St) : Nat → Nat → Int64 := s.2.2.1
def gc_Y (s : gc_St) : Nat → Option Nat := s.2.2.2.1
def gc_ln (s : gc_St) : Int64 := s.2.2.2.2.1
def gc_lw (s : gc_St) : Nat := s.2.2.2.2.2.1
def gc_dr (s : gc_St) : Nat := s.2.2.2.2.2.2.1
def gc_rl (s : gc_St) : Option Nat := s.2.2.2.2.2.2.2.1
def gc_be (s : gc_St) : Nat := s.2.2.2.2.2.2.2.2.1
def gc_n (s : gc_St) : Nat := s.2.2.2.2.2.2.2.2.2.1
def gc_D (s : gc_St) : Nat → Nat := s.2.2.2.2.2.2.2.2.2.2
def gc_wF (s : gc_St) (q k : Nat) (x : Int32) : gc_St := (va_up s.1 q (va_up (s.1 q) k x), s.2)
def gc_wI (s : gc_St) (a i : Nat) (x : Int32) : gc_St := (s.1, va_up s.2.1 a (upd (s.2.1 a) i x), s.2.2)
def gc_wR (s : gc_St) (a : Nat) (f : Nat → Int32) : gc_St := (s.1, va_up s.2.1 a f, s.2.2)
def gc_wJ (s : gc_St) (a i : Nat) (x : Int64) : gc_St := (s.1, s.2.1, va_up s.2.2.1 a (vp_updL (s.2.2.1 a) i x), s.2.2.2)
def gc_wY (s : gc_St) (i b : Nat) : gc_St := (s.1, s.2.1, s.2.2.1, va_up s.2.2.2.1 i (some b), s.2.2.2.2)
def gc_wln (s : gc_St) (x : Int64) : gc_St := (s.1, s.2.1, s.2.2.1, s.2.2.2.1, x, s.2.2.2.2.2)
def gc_wlw (s : gc_St) (a : Nat) : gc_St := (s.1, s.2.1, s.2.2.1, s.2.2.2.1, s.2.2.2.2.1, a, s.2.2.2.2.2.2)
def gc_wdr (s : gc_St) (a : Nat) : gc_St := (s.1, s.2.1, s.2.2.1, s.2.2.2.1, s.2.2.2.2.1, s.2.2.2.2.2.1, a, s.2.2.2.2.2.2.2)
def gc_wrl (s : gc_St) (a : Option Nat) : gc_St := (s.1, s.2.1, s.2.2.1, s.2.2.2.1, s.2.2.2.2.1, s.2.2.2.2.2.1, s.2.2.2.2.2.2.1, a, s.2.2.2.2.2.2.2.2)
def gc_wbe (s : gc_St) (a : Nat) : gc_St := (s.1, s.2.1, s.2.2.1, s.2.2.2.1, s.2.2.2.2.1, s.2.2.2.2.2.1, s.2.2.2.2.2.2.1, s.2.2.2.2.2.2.2.1, a, s.2.2.2.2.2.2.2.2.2)
/-- a new row of n ints -/
def gc_nwI (s : gc_St) (n : Nat) : gc_St := (s.1, va_up s.2.1 (116 + gc_n s) (fun _ => 0), s.2.2.1, s.2.2.2.1, s.2.2.2.2.1, s.2.2.2.2.2.1, s.2.2.2.2.2.2.1, s.2.2.2.2.2.2.2.1, s.2.2.2.2.2.2.2.2.1, gc_n s + 1, va_up (gc_D s) (116 + gc_n s) n)
def gc_gk (s : gc_St) (q : Nat) : Nat × Nat := match Nat.ble 116 q with
  | true => (match Nat.blt q (116 + gc_n s) with
    | true => (0, gc_D s q)
    | false => (99, 0))
  | false => gc_kS.getD q (99, 0)
def gc_ft (ci k : Nat) : Nat := (gc_fts.getD ci []).getD k 9
def gc_rS (q k : Nat) : Nat := (gc_rTs.getD q []).getD k 0
def gc_fv (s : gc_St) (q ci k : Nat) : Value := match gc_ft ci k with
  | 0 => .int (gc_F s q k)
  | 1 => .long (gc_ln s)
  | 2 => .ref (gc_rS q k)
  | 3 => .ref (gc_lw s)
  | 4 => .ref (gc_dr s)
  | 5 => va_rf (gc_rl s)
  | 6 => .ref (gc_be s)
  | _ => .null
def gc_ct (s : gc_St) (q c : Nat) : (Nat → Int32) ⊕ (Nat → Int64) ⊕ (Nat → UInt32) ⊕ (Nat → UInt64) ⊕ (Nat → Option Nat) := match c with
  | 2 => .inr (.inl (gc_J s q))
  | 4 => .inr (.inr (.inr (.inr (gc_Y s))))
  | 5 => .inr (.inr (.inr (.inr (fun j => some (51 + j)))))
  | _ => .inl (gc_I s q)
def gc_cell (s : gc_St) (q : Nat) (kn : Nat × Nat) : gc_E := match Nat.ble 100 kn.1 with
  | true => .inr (kn.1 - 100, (List.range kn.2).map (gc_fv s q (kn.1 - 100)))
  | false => .inl (kn.1, kn.2, gc_ct s q kn.1)
def gc_bT (s : gc_St) : gc_H := (116 + gc_n s, fun q => match Nat.ble 116 q with
  | true => .inl (0, gc_D s q, .inl (gc_I s q))
  | false => gc_cell s q (gc_kS.getD q (99, 0)))
abbrev gc_TQ : Type := Option Value → gc_St → Prop
def gc_lift (Q : gc_TQ) : gc_Q := fun r S => ∃ s, S = gc_bT s ∧ Q r s
abbrev gc_T (P : gc_Pr) (d kc ks y pc : Nat) (lv st : List Value) (s : gc_St) (Q : gc_TQ) : Prop := P d kc ks y pc lv st (gc_bT s) (gc_lift Q)
def gc_so (o : Option Nat) (k : Nat → Prop) : Prop := match o with
  | some a => k a
  | none => False
def gc_ri (r : Option Value) (k : Int32 → Prop) : Prop := match r with
  | some (.int x) => k x
  | _ => False
def gc_rL (r : Option Value) (k : Int64 → Prop) : Prop := match r with
  | some (.long x) => k x
  | _ => False
def gc_rA (r : Option Value) (k : Nat → Prop) : Prop := match r with
  | some (.ref x) => k x
  | _ => False
def gc_rv (r : Option Value) (k : Prop) : Prop := match r with
  | none => k
  | _ => False
def gc_tL (y : Nat) : Nat := gc_tLs.getD y 0
def gc_tR (y : Nat) : Nat := gc_tRs.getD y 0
def gc_tC (y : Nat) : Nat := gc_tCs.getD y 99
def gc_tM (y : Nat) : Bool := gc_tMs.getD y false
def gc_tres (rk : Nat) (r : Option Value) (rest : List Value) (k : List Value → Prop) : Prop := match rk with
  | 0 => gc_rv r (k rest)
  | 1 => gc_ri r fun x => k (.int x :: rest)
  | 2 => gc_rL r fun x => k (.long x :: rest)
  | _ => gc_rA r fun x => k (.ref x :: rest)
def gc_tcall (P : gc_Pr) (d y nA kc ks : Nat) (st : List Value) (s : gc_St) (K : Nat → Nat → List Value → gc_St → Prop) : Prop :=
  match Nat.ble nA st.length, Nat.ble (st.drop nA).length 4, Nat.ble (gc_ent (st.take nA).reverse).length (gc_tL y) with
  | true, true, true => (match gc_tM y with
    | false => 1 ≤ d ∧ gc_T P (d - 1) 0 0 y 0 (gc_pad (gc_tL y) (gc_ent (st.take nA).reverse)) [] s (fun r s' => gc_tres (gc_tR y) r (st.drop nA) (fun st => K kc ks st s'))
    | true => 1 ≤ d ∧ ∃ kc' ks', kc' ≤ kc ∧ ks' ≤ ks ∧ gc_T P (d - 1) kc' ks' y 0 (gc_pad (gc_tL y) (gc_ent (st.take nA).reverse)) [] s (fun r s' => gc_tres (gc_tR y) r (st.drop nA) (fun st => K (kc - kc') (ks - ks') st s')))
  | _, _, _ => False
def gc_bt (b : Bool) (A : Prop) : Prop := match b with
  | true => A
  | false => False
def gc_q2 (n : Nat) (A : Prop) : Prop := match n with
  | 2 => A
  | _ => False
def gc_tex (P : gc_Pr) (d y : Nat) (el : gc_El) (kc ks : Nat) (lv st : List Value) (s : gc_St) (Q : gc_TQ) (K : Nat → Nat → List Value → List Value → gc_St → Prop) : Prop :=
  match el.2.2.1 with
  | .getfield _ => gc_1r st fun q r => gc_bt (Nat.beq (gc_gk s q).1 (100 + el.2.2.2.1)) (match gc_ft el.2.2.2.1 (el.2.2.2.2.1 / 4), el.2.2.2.2.1 % 4 with
      | 0, 0 => K kc ks lv (.int (gc_F s q (el.2.2.2.2.1 / 4)) :: r) s
      | 1, 1 => K kc ks lv (.long (gc_ln s) :: r) s
      | 2, 2 => K kc ks lv (.ref (gc_rS q (el.2.2.2.2.1 / 4)) :: r) s
      | 3, 2 => K kc ks lv (.ref (gc_lw s) :: r) s
      | 4, 2 => K kc ks lv (.ref (gc_dr s) :: r) s
      | 5, 2 => gc_so (gc_rl s) fun a => K kc ks lv (.ref a :: r) s
      | 6, 2 => K kc ks lv (.ref (gc_be s) :: r) s
      | _, _ => False)
  | .putfield _ => gc_vr st fun q v r => gc_bt (Nat.beq (gc_gk s q).1 (100 + el.2.2.2.1)) (match gc_ft el.2.2.2.1 (el.2.2.2.2.1 / 4), el.2.2.2.2.1 % 4, v with
      | 0, 0, .int x => K kc ks lv r (gc_wF s q (el.2.2.2.2.1 / 4) x)
      | 0, 3, .int x => (x = 0 ∨ x = 1) ∧ K kc ks lv r (gc_wF s q (el.2.2.2.2.1 / 4) x)
      | 1, 1, .long x => K kc ks lv r (gc_wln s x)
      | 3, 2, .ref a => K kc ks lv r (gc_wlw s a)
      | 4, 2, .ref a => K kc ks lv r (gc_wdr s a)
      | 5, 2, .ref a => K kc ks lv r (gc_wrl s (some a))
      | 6, 2, .ref a => K kc ks lv r (gc_wbe s a)
      | _, _, _ => False)
  | .iaload => gc_ir st fun a i r => (gc_gk s a).1 = 0 ∧ vp_in i (gc_gk s a).2 ∧ K kc ks lv (.int (gc_I s a i.toNatClampNeg) :: r) s
  | .baload => gc_ir st fun a i r => match (gc_gk s a).1 with
    | 1 => vp_in i (gc_gk s a).2 ∧ K kc ks lv (.int (gc_I s a i.toNatClampNeg) :: r) s
    | 3 => vp_in i (gc_gk s a).2 ∧ K kc ks lv (.int (gc_I s a i.toNatClampNeg) :: r) s
    | _ => False
  | .laload => gc_ir st fun a i r => gc_q2 (gc_gk s a).1 (vp_in i (gc_gk s a).2 ∧ K kc ks lv (.long (gc_J s a i.toNatClampNeg) :: r) s)
  | .aaload => gc_ir st fun a i r => match (gc_gk s a).1 with
    | 4 => vp_in i (gc_gk s a).2 ∧ ((∃ b, gc_Y s i.toNatClampNeg = some b ∧ K kc ks lv (.ref b :: r) s) ∨ (gc_Y s i.toNatClampNeg = none ∧ K kc ks lv (.null :: r) s))
    | 5 => vp_in i (gc_gk s a).2 ∧ K kc ks lv (.ref (51 + i.toNatClampNeg) :: r) s
    | _ => False
  | .iastore => gc_vir st fun a i v r => match v with
    | .int x => (gc_gk s a).1 = 0 ∧ vp_in i (gc_gk s a).2 ∧ K kc ks lv r (gc_wI s a i.toNatClampNeg x)
    | _ => False
  | .bastore => gc_vir st fun a i v r => match v, (gc_gk s a).1 with
    | .int x, 1 => vp_in i (gc_gk s a).2 ∧ K kc ks lv r (gc_wI s a i.toNatClampNeg (vp_nar .byte x))
    | .int x, 3 => vp_in i (gc_gk s a).2 ∧ K kc ks lv r (gc_wI s a i.toNatClampNeg (vp_nar .boolean x))
    | _, _ => False
  | .lastore => gc_vir st fun a i v r => match v with
    | .long x => gc_q2 (gc_gk s a).1 (vp_in i (gc_gk s a).2 ∧ K kc ks lv r (gc_wJ s a i.toNatClampNeg x))
    | _ => False
  | .aastore => gc_vir st fun a i v r => match v, (gc_gk s a).1 with
    | .ref b, 4 => vp_in i (gc_gk s a).2 ∧ (gc_gk s b).1 = 0 ∧ K kc ks lv r (gc_wY s i.toNatClampNeg b)
    | _, _ => False
  | .arraylength => gc_1r st fun a r => gc_bt (Nat.blt (gc_gk s a).1 6) (K kc ks lv (.int (Int32.ofNat (gc_gk s a).2) :: r) s)
  | .newarray _ => gc_1i st fun n r => match el.2.2.2.1 with
    | 0 => ¬ n < 0 ∧ n.toNatClampNeg ≤ 1000000 ∧ 1 ≤ kc ∧ n.toNatClampNeg ≤ ks ∧ K (kc - 1) (ks - n.toNatClampNeg) lv (.ref (116 + gc_n s) :: r) (gc_nwI s n.toNatClampNeg)
    | _ => False
  | .new _ => False
  | .anewarray _ => False
  | .invokespecial _ => False
  | .invokevirtual _ => match st[el.2.2.2.2.1 - 1]? with
    | some (.ref b) => gc_bt (Nat.beq (gc_gk s b).1 (100 + gc_tC el.2.2.2.1)) (gc_tcall P d el.2.2.2.1 el.2.2.2.2.1 kc ks st s (fun kc ks st s => K kc ks lv st s))
    | _ => False
  | .invokestatic _ => match el.2.2.2.1 with
    | 1000 => gc_2i st fun x y r => 1 ≤ d ∧ r.length ≤ 4 ∧ K kc ks lv (.int (if x < y then y else x) :: r) s
    | 1001 => gc_2i st fun x y r => 1 ≤ d ∧ r.length ≤ 4 ∧ K kc ks lv (.int (if y < x then y else x) :: r) s
    | 1002 => (match st with
      | .int n :: .int dp :: .ref b :: .int sp :: .ref a :: r => 1 ≤ d ∧ r.length ≤ 4 ∧ ¬ sp < 0 ∧ ¬ dp < 0 ∧ ¬ n < 0 ∧ (gc_gk s a).1 = 0 ∧ (gc_gk s b).1 = 0 ∧ sp.toNatClampNeg + n.toNatClampNeg ≤ (gc_gk s a).2 ∧ dp.toNatClampNeg + n.toNatClampNeg ≤ (gc_gk s b).2 ∧ K kc ks lv r (gc_wR s b (va_cpy (gc_I s a) (gc_I s b) sp.toNatClampNeg dp.toNatClampNeg n.toNatClampNeg))
      | _ => False)
    | r1 => gc_tcall P d r1 el.2.2.2.2.1 kc ks st s (fun kc ks st s => K kc ks lv st s)
  | .ireturn => match st with
    | [.int x] => (match el.2.2.2.1 with
      | 0 => kc = 0 ∧ Q (some (.int x)) s
      | _ => kc = 0 ∧ (x = 0 ∨ x = 1) ∧ Q (some (.int x)) s)
    | _ => False
  | .lreturn => match st with
    | [.long x] => kc = 0 ∧ Q (some (.long x)) s
    | _ => False
  | .areturn => match st with
    | [.ref x] => kc = 0 ∧ Q (some (.ref x)) s
    | _ => False
  | .return_ => match st with
    | [] => kc = 0 ∧ Q none s
    | _ => False
  | _ => gc_ex P gc_mL gc_mC gc_dfl d y el kc ks lv st (gc_bT s) (gc_lift Q) (fun kc ks lv st _ => K kc ks lv st s)
def gc_tblk (P : gc_Pr) (d y : Nat) (Q : gc_TQ) : List gc_El → Nat → Nat → Nat → List Value → List Value → gc_St → Prop
  | [], pc, kc, ks, lv, st, s => gc_T P d kc ks y pc lv st s Q
  | el :: es, _, kc, ks, lv, st, s => gc_tex P d y el kc ks lv st s Q (fun kc ks lv st s => gc_tblk P d y Q es el.2.1 kc ks lv st s)
