/-! A SMALL MACHINE: bytecode over a heap that is a row of cells; a predicate P of its states that is closed under its blocks is what every method's contract is said of. -/
abbrev gc_E : Type := (Nat × vp_A) ⊕ (Nat × List Value)
abbrev gc_H : Type := Nat × (Nat → gc_E)
/-- pc, the next pc, the instruction, two numbers, a constant -/
abbrev gc_El : Type := Nat × Nat × Instr × Nat × Nat × Int32
abbrev gc_Q : Type := Option Value → gc_H → Prop
/-- frames left, cells left, slots left, method, pc, locals, stack, heap, what must hold at the end -/
abbrev gc_Pr : Type := Nat → Nat → Nat → Nat → Nat → List Value → List Value → gc_H → gc_Q → Prop
abbrev gc_u : Value := .retAddr 0
def gc_1i (st : List Value) (k : Int32 → List Value → Prop) : Prop := match st with
  | .int x :: r => k x r
  | _ => False
def gc_2i (st : List Value) (k : Int32 → Int32 → List Value → Prop) : Prop := match st with
  | .int y :: .int x :: r => k x y r
  | _ => False
def gc_1l (st : List Value) (k : Int64 → List Value → Prop) : Prop := match st with
  | .long x :: r => k x r
  | _ => False
def gc_2l (st : List Value) (k : Int64 → Int64 → List Value → Prop) : Prop := match st with
  | .long y :: .long x :: r => k x y r
  | _ => False
def gc_1r (st : List Value) (k : Nat → List Value → Prop) : Prop := match st with
  | .ref a :: r => k a r
  | _ => False
def gc_ir (st : List Value) (k : Nat → Int32 → List Value → Prop) : Prop := match st with
  | .int i :: .ref a :: r => k a i r
  | _ => False
def gc_vir (st : List Value) (k : Nat → Int32 → Value → List Value → Prop) : Prop := match st with
  | v :: .int i :: .ref a :: r => k a i v r
  | _ => False
def gc_vr (st : List Value) (k : Nat → Value → List Value → Prop) : Prop := match st with
  | v :: .ref a :: r => k a v r
  | _ => False
def gc_1a (st : List Value) (kr : Nat → List Value → Prop) (kn : List Value → Prop) : Prop := match st with
  | .ref a :: r => kr a r
  | .null :: r => kn r
  | _ => False
def gc_lI (lv : List Value) (n : Nat) (k : Int32 → Prop) : Prop := match lv[n]? with
  | some (.int x) => k x
  | _ => False
def gc_lL (lv : List Value) (n : Nat) (k : Int64 → Prop) : Prop := match lv[n]? with
  | some (.long x) => k x
  | _ => False
def gc_lA (lv : List Value) (n : Nat) (k : Value → Prop) : Prop := match lv[n]? with
  | some (.ref a) => k (.ref a)
  | some .null => k .null
  | _ => False
/-- a long just below n goes -/
def gc_clr (lv : List Value) (n : Nat) : List Value := match n with
  | 0 => lv
  | j + 1 => match lv[j]? with
    | some (.long _) => lv.set j gc_u
    | some (.double _) => lv.set j gc_u
    | _ => lv
def gc_s1 (lv : List Value) (n : Nat) (v : Value) : List Value := (gc_clr lv n).set n v
def gc_s2 (lv : List Value) (n : Nat) (v : Value) : List Value := ((gc_clr lv n).set n v).set (n + 1) gc_u
/-- one cell of the heap is another, one cell more -/
def gc_up (S : gc_H) (a : Nat) (e : gc_E) : gc_H := (S.1, fun q => if q = a then e else S.2 q)
def gc_nw (S : gc_H) (e : gc_E) : gc_H := (S.1 + 1, fun q => if q = S.1 then e else S.2 q)
def gc_isO (S : gc_H) (a ci : Nat) : Prop := a < S.1 ∧ ∃ fs, S.2 a = .inr (ci, fs)
/-- arguments as locals -/
def gc_ent : List Value → List Value
  | [] => []
  | .long x :: r => .long x :: gc_u :: gc_ent r
  | .double x :: r => .double x :: gc_u :: gc_ent r
  | v :: r => v :: gc_ent r
def gc_pad (n : Nat) (l : List Value) : List Value := l ++ List.replicate (n - l.length) gc_u
def gc_tsw (x lo : Int) (offs : List Int) (k : Int → Prop) : Prop := match offs with
  | [] => True
  | o :: os => (x = lo → k o) ∧ gc_tsw x (lo + 1) os k
def gc_lsw (x : Int) (ps : List (Int × Int)) (k : Int → Prop) (kd : Prop) : Prop := match ps with
  | [] => kd
  | p :: ps => (x = p.1 → k p.2) ∧ (¬ x = p.1 → gc_lsw x ps k kd)
/-- what a new array holds, by its tag: 0 int, 1 byte, 2 long, 3 boolean, 4 rows of ints, 5 hands -/
def gc_zero (tag : Nat) : (Nat → Int32) ⊕ (Nat → Int64) ⊕ (Nat → UInt32) ⊕ (Nat → UInt64) ⊕ (Nat → Option Nat) := match tag with
  | 2 => .inr (.inl (fun _ => 0))
  | 4 => .inr (.inr (.inr (.inr (fun _ => none))))
  | 5 => .inr (.inr (.inr (.inr (fun _ => none))))
  | _ => .inl (fun _ => 0)
def gc_call (P : gc_Pr) (d y nA mx kc ks : Nat) (st : List Value) (S : gc_H) (K : Nat → Nat → List Value → gc_H → Prop) : Prop :=
  1 ≤ d ∧ nA ≤ st.length ∧ (st.drop nA).length ≤ 4 ∧ (gc_ent (st.take nA).reverse).length ≤ mx ∧ ∃ kc' ks', kc' ≤ kc ∧ ks' ≤ ks ∧
    P (d - 1) kc' ks' y 0 (gc_pad mx (gc_ent (st.take nA).reverse)) [] S (fun r S' => K (kc - kc') (ks - ks') (r.toList ++ st.drop nA) S')
def gc_recv (st : List Value) (nA ci : Nat) (S : gc_H) : Prop := match st[nA - 1]? with
  | some (.ref b) => gc_isO S b ci
  | _ => False
def gc_rcv (st : List Value) (nA : Nat) : Prop := match st[nA - 1]? with
  | some (.ref _) => True
  | _ => False
/-- one instruction; mx: the locals of the method called, ci: its class -/
def gc_ex (P : gc_Pr) (mx ci : Nat → Nat) (dfl : Nat → List Value) (d y : Nat) (el : gc_El) (kc ks : Nat) (lv st : List Value) (S : gc_H) (Q : gc_Q) (K : Nat → Nat → List Value → List Value → gc_H → Prop) : Prop :=
  match el with
  | (pc, _, ins, r1, r2, cn) => match ins with
    | .aload_n n => gc_lA lv n.val fun v => K kc ks lv (v :: st) S
    | .aload n => gc_lA lv n fun v => K kc ks lv (v :: st) S
    | .iload_n n => gc_lI lv n.val fun x => K kc ks lv (.int x :: st) S
    | .iload n => gc_lI lv n fun x => K kc ks lv (.int x :: st) S
    | .lload_n n => gc_lL lv n.val fun x => K kc ks lv (.long x :: st) S
    | .lload n => gc_lL lv n fun x => K kc ks lv (.long x :: st) S
    | .istore_n n => gc_1i st fun x r => K kc ks (gc_s1 lv n.val (.int x)) r S
    | .istore n => gc_1i st fun x r => K kc ks (gc_s1 lv n (.int x)) r S
    | .lstore_n n => gc_1l st fun x r => K kc ks (gc_s2 lv n.val (.long x)) r S
    | .lstore n => gc_1l st fun x r => K kc ks (gc_s2 lv n (.long x)) r S
    | .astore_n n => gc_1r st fun a r => K kc ks (gc_s1 lv n.val (.ref a)) r S
    | .astore n => gc_1r st fun a r => K kc ks (gc_s1 lv n (.ref a)) r S
    | .iinc n _ => gc_lI lv n fun x => K kc ks (gc_s1 lv n (.int (x + cn))) st S
    | .iconst _ => K kc ks lv (.int cn :: st) S
    | .bipush _ => K kc ks lv (.int cn :: st) S
    | .sipush _ => K kc ks lv (.int cn :: st) S
    | .ldc _ => K kc ks lv (.int cn :: st) S
    | .ldc_w _ => K kc ks lv (.int cn :: st) S
    | .lconst n => K kc ks lv (.long (Int64.ofNat n.val) :: st) S
    | .ldc2_w _ => K kc ks lv (.long (Int64.ofNat r1) :: st) S
    | .iadd => gc_2i st fun x y r => K kc ks lv (.int (x + y) :: r) S
    | .isub => gc_2i st fun x y r => K kc ks lv (.int (x - y) :: r) S
    | .imul => gc_2i st fun x y r => K kc ks lv (.int (x * y) :: r) S
    | .iand => gc_2i st fun x y r => K kc ks lv (.int (x &&& y) :: r) S
    | .ior => gc_2i st fun x y r => K kc ks lv (.int (x ||| y) :: r) S
    | .ixor => gc_2i st fun x y r => K kc ks lv (.int (x ^^^ y) :: r) S
    | .ineg => gc_1i st fun x r => K kc ks lv (.int (-x) :: r) S
    | .ishl => gc_2i st fun x y r => K kc ks lv (.int (x <<< (y &&& 31)) :: r) S
    | .ishr => gc_2i st fun x y r => K kc ks lv (.int (x >>> (y &&& 31)) :: r) S
    | .iushr => gc_2i st fun x y r => K kc ks lv (.int (x.toUInt32 >>> (y.toUInt32 &&& Int32.toUInt32 31)).toInt32 :: r) S
    | .idiv => gc_2i st fun x y r => ¬ y = 0 ∧ K kc ks lv (.int (x / y) :: r) S
    | .irem => gc_2i st fun x y r => ¬ y = 0 ∧ K kc ks lv (.int (x - x / y * y) :: r) S
    | .ladd => gc_2l st fun x y r => K kc ks lv (.long (x + y) :: r) S
    | .lmul => gc_2l st fun x y r => K kc ks lv (.long (x * y) :: r) S
    | .lcmp => gc_2l st fun x y r => K kc ks lv (.int (lg_cmp x y) :: r) S
    | .i2l => gc_1i st fun x r => K kc ks lv (.long x.toInt64 :: r) S
    | .i2b => gc_1i st fun x r => K kc ks lv (.int x.toInt8.toInt32 :: r) S
    | .dup => match st with
      | .int x :: r => K kc ks lv (.int x :: .int x :: r) S
      | .ref x :: r => K kc ks lv (.ref x :: .ref x :: r) S
      | _ => False
    | .dup2 => gc_ir st fun a i r => K kc ks lv (.int i :: .ref a :: .int i :: .ref a :: r) S
    | .pop => gc_1i st fun _ r => K kc ks lv r S
    | .ifCond c _ => gc_1i st fun x r => match c with
      | .eq => (x = 0 → P d kc ks y r1 lv r S Q) ∧ (¬ x = 0 → K kc ks lv r S)
      | .ne => (¬ x = 0 → P d kc ks y r1 lv r S Q) ∧ (x = 0 → K kc ks lv r S)
      | .lt => (x < 0 → P d kc ks y r1 lv r S Q) ∧ (¬ x < 0 → K kc ks lv r S)
      | .ge => (0 ≤ x → P d kc ks y r1 lv r S Q) ∧ (¬ 0 ≤ x → K kc ks lv r S)
      | .gt => (0 < x → P d kc ks y r1 lv r S Q) ∧ (¬ 0 < x → K kc ks lv r S)
      | .le => (x ≤ 0 → P d kc ks y r1 lv r S Q) ∧ (¬ x ≤ 0 → K kc ks lv r S)
    | .if_icmp c _ => gc_2i st fun x z r => match c with
      | .eq => (x = z → P d kc ks y r1 lv r S Q) ∧ (¬ x = z → K kc ks lv r S)
      | .ne => (¬ x = z → P d kc ks y r1 lv r S Q) ∧ (x = z → K kc ks lv r S)
      | .lt => (x < z → P d kc ks y r1 lv r S Q) ∧ (¬ x < z → K kc ks lv r S)
      | .ge => (z ≤ x → P d kc ks y r1 lv r S Q) ∧ (¬ z ≤ x → K kc ks lv r S)
      | .gt => (z < x → P d kc ks y r1 lv r S Q) ∧ (¬ z < x → K kc ks lv r S)
      | .le => (x ≤ z → P d kc ks y r1 lv r S Q) ∧ (¬ x ≤ z → K kc ks lv r S)
    | .ifnonnull _ => gc_1a st (fun _ r => P d kc ks y r1 lv r S Q) (fun r => K kc ks lv r S)
    | .goto _ => P d kc ks y r1 lv st S Q
    | .tableswitch df lo hi offs => gc_1i st fun x r => gc_tsw x.toInt lo offs.toList (fun o => P d kc ks y ((pc : Int) + o).toNat lv r S Q) ∧ (x.toInt < lo ∨ hi < x.toInt → P d kc ks y ((pc : Int) + df).toNat lv r S Q)
    | .lookupswitch df ps => gc_1i st fun x r => gc_lsw x.toInt ps.toList (fun o => P d kc ks y ((pc : Int) + o).toNat lv r S Q) (P d kc ks y ((pc : Int) + df).toNat lv r S Q)
    | .getfield _ => gc_1r st fun a r => ∃ fs, a < S.1 ∧ S.2 a = .inr (r1, fs) ∧ (match r2 % 4 with
      | 0 => ∃ x, fs[r2 / 4]? = some (.int x) ∧ K kc ks lv (.int x :: r) S
      | 1 => ∃ x, fs[r2 / 4]? = some (.long x) ∧ K kc ks lv (.long x :: r) S
      | _ => ∃ x, fs[r2 / 4]? = some (.ref x) ∧ K kc ks lv (.ref x :: r) S)
    | .putfield _ => gc_vr st fun a v r => ∃ fs, a < S.1 ∧ S.2 a = .inr (r1, fs) ∧ r2 / 4 < fs.length ∧ (match r2 % 4, v with
      | 0, .int x => K kc ks lv r (gc_up S a (.inr (r1, fs.set (r2 / 4) (.int x))))
      | 1, .long x => K kc ks lv r (gc_up S a (.inr (r1, fs.set (r2 / 4) (.long x))))
      | 2, .ref x => K kc ks lv r (gc_up S a (.inr (r1, fs.set (r2 / 4) (.ref x))))
      | 3, .int x => (x = 0 ∨ x = 1) ∧ K kc ks lv r (gc_up S a (.inr (r1, fs.set (r2 / 4) (.int x))))
      | _, _ => False)
    | .iaload => gc_ir st fun a i r => ∃ n f, a < S.1 ∧ S.2 a = .inl (0, n, .inl f) ∧ vp_in i n ∧ K kc ks lv (.int (f i.toNatClampNeg) :: r) S
    | .baload => gc_ir st fun a i r => ∃ t n f, (t = 1 ∨ t = 3) ∧ a < S.1 ∧ S.2 a = .inl (t, n, .inl f) ∧ vp_in i n ∧ K kc ks lv (.int (f i.toNatClampNeg) :: r) S
    | .laload => gc_ir st fun a i r => ∃ n f, a < S.1 ∧ S.2 a = .inl (2, n, .inr (.inl f)) ∧ vp_in i n ∧ K kc ks lv (.long (f i.toNatClampNeg) :: r) S
    | .aaload => gc_ir st fun a i r => ∃ t n f, (t = 4 ∨ t = 5) ∧ a < S.1 ∧ S.2 a = .inl (t, n, .inr (.inr (.inr (.inr f)))) ∧ vp_in i n ∧ ((∃ b, f i.toNatClampNeg = some b ∧ K kc ks lv (.ref b :: r) S) ∨ (f i.toNatClampNeg = none ∧ K kc ks lv (.null :: r) S))
    | .iastore => gc_vir st fun a i v r => match v with
      | .int x => ∃ n f, a < S.1 ∧ S.2 a = .inl (0, n, .inl f) ∧ vp_in i n ∧ K kc ks lv r (gc_up S a (.inl (0, n, .inl (upd f i.toNatClampNeg x))))
      | _ => False
    | .bastore => gc_vir st fun a i v r => match v with
      | .int x => (∃ n f, a < S.1 ∧ S.2 a = .inl (1, n, .inl f) ∧ vp_in i n ∧ K kc ks lv r (gc_up S a (.inl (1, n, .inl (upd f i.toNatClampNeg (vp_nar .byte x)))))) ∨ (∃ n f, a < S.1 ∧ S.2 a = .inl (3, n, .inl f) ∧ vp_in i n ∧ K kc ks lv r (gc_up S a (.inl (3, n, .inl (upd f i.toNatClampNeg (vp_nar .boolean x))))))
      | _ => False
    | .lastore => gc_vir st fun a i v r => match v with
      | .long x => ∃ n f, a < S.1 ∧ S.2 a = .inl (2, n, .inr (.inl f)) ∧ vp_in i n ∧ K kc ks lv r (gc_up S a (.inl (2, n, .inr (.inl (vp_updL f i.toNatClampNeg x)))))
      | _ => False
    | .aastore => gc_vir st fun a i v r => match v with
      | .ref b => (∃ n f, a < S.1 ∧ S.2 a = .inl (5, n, .inr (.inr (.inr (.inr f)))) ∧ vp_in i n ∧ gc_isO S b 1 ∧ K kc ks lv r (gc_up S a (.inl (5, n, .inr (.inr (.inr (.inr (va_up f i.toNatClampNeg (some b)))))))))
        ∨ (∃ n f n2 f2, a < S.1 ∧ S.2 a = .inl (4, n, .inr (.inr (.inr (.inr f)))) ∧ vp_in i n ∧ b < S.1 ∧ S.2 b = .inl (0, n2, .inl f2) ∧ K kc ks lv r (gc_up S a (.inl (4, n, .inr (.inr (.inr (.inr (va_up f i.toNatClampNeg (some b)))))))))
      | _ => False
    | .arraylength => gc_1r st fun a r => ∃ t n f, t < 6 ∧ a < S.1 ∧ S.2 a = .inl (t, n, f) ∧ K kc ks lv (.int (Int32.ofNat n) :: r) S
    | .new _ => 1 ≤ kc ∧ (dfl r1).length ≤ ks ∧ K (kc - 1) (ks - (dfl r1).length) lv (.ref S.1 :: st) (gc_nw S (.inr (r1, dfl r1)))
    | .newarray _ => gc_1i st fun n r => ¬ n < 0 ∧ n.toNatClampNeg ≤ 1000000 ∧ 1 ≤ kc ∧ n.toNatClampNeg ≤ ks ∧ K (kc - 1) (ks - n.toNatClampNeg) lv (.ref S.1 :: r) (gc_nw S (.inl (r1, n.toNatClampNeg, gc_zero r1)))
    | .anewarray _ => gc_1i st fun n r => ¬ n < 0 ∧ n.toNatClampNeg ≤ 1000000 ∧ 1 ≤ kc ∧ n.toNatClampNeg ≤ ks ∧ K (kc - 1) (ks - n.toNatClampNeg) lv (.ref S.1 :: r) (gc_nw S (.inl (r1, n.toNatClampNeg, gc_zero r1)))
    | .invokevirtual _ => gc_recv st r2 (ci r1) S ∧ gc_call P d r1 r2 (mx r1) kc ks st S (fun kc ks st S => K kc ks lv st S)
    | .invokestatic _ => match r1 with
      | 1000 => gc_2i st fun x y r => 1 ≤ d ∧ r.length ≤ 4 ∧ K kc ks lv (.int (if x < y then y else x) :: r) S
      | 1001 => gc_2i st fun x y r => 1 ≤ d ∧ r.length ≤ 4 ∧ K kc ks lv (.int (if y < x then y else x) :: r) S
      | 1002 => match st with
        | .int n :: .int dp :: .ref b :: .int sp :: .ref a :: r => 1 ≤ d ∧ r.length ≤ 4 ∧ ¬ sp < 0 ∧ ¬ dp < 0 ∧ ¬ n < 0 ∧ ∃ na fa nb fb, a < S.1 ∧ S.2 a = .inl (0, na, .inl fa) ∧ b < S.1 ∧ S.2 b = .inl (0, nb, .inl fb) ∧ sp.toNatClampNeg + n.toNatClampNeg ≤ na ∧ dp.toNatClampNeg + n.toNatClampNeg ≤ nb ∧ K kc ks lv r (gc_up S b (.inl (0, nb, .inl (va_cpy fa fb sp.toNatClampNeg dp.toNatClampNeg n.toNatClampNeg))))
        | _ => False
      | r1 => gc_call P d r1 r2 (mx r1) kc ks st S (fun kc ks st S => K kc ks lv st S)
    | .invokespecial _ => match r1 with
      | 999 => gc_1r st fun _ r => 1 ≤ d ∧ r.length ≤ 4 ∧ K kc ks lv r S
      | r1 => gc_rcv st r2 ∧ gc_call P d r1 r2 (mx r1) kc ks st S (fun kc ks st S => K kc ks lv st S)
    | .ireturn => match st with
      | [.int x] => (match r1 with
        | 0 => kc = 0 ∧ Q (some (.int x)) S
        | _ => kc = 0 ∧ (x = 0 ∨ x = 1) ∧ Q (some (.int x)) S)
      | _ => False
    | .lreturn => match st with
      | [.long x] => kc = 0 ∧ Q (some (.long x)) S
      | _ => False
    | .areturn => match st with
      | [.ref x] => kc = 0 ∧ Q (some (.ref x)) S
      | _ => False
    | .return_ => match st with
      | [] => kc = 0 ∧ Q none S
      | _ => False
    | _ => False
def gc_blk (P : gc_Pr) (mx ci : Nat → Nat) (dfl : Nat → List Value) (d y : Nat) (Q : gc_Q) : List gc_El → Nat → Nat → Nat → List Value → List Value → gc_H → Prop
  | [], pc, kc, ks, lv, st, S => P d kc ks y pc lv st S Q
  | el :: es, _, kc, ks, lv, st, S => gc_ex P mx ci dfl d y el kc ks lv st S Q (fun kc ks lv st S => gc_blk P mx ci dfl d y Q es el.2.1 kc ks lv st S)
