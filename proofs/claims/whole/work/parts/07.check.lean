/-! What is checked of the tables, by program. -/
def gc_len : Instr → Nat
  | .aload _ => 2 | .iload _ => 2 | .lload _ => 2 | .istore _ => 2 | .lstore _ => 2 | .astore _ => 2 | .bipush _ => 2 | .ldc _ => 2 | .newarray _ => 2
  | .iinc _ _ => 3 | .sipush _ => 3 | .ldc_w _ => 3 | .ldc2_w _ => 3 | .ifCond _ _ => 3 | .if_icmp _ _ => 3 | .ifnonnull _ => 3 | .goto _ => 3 | .getfield _ => 3 | .putfield _ => 3
  | .new _ => 3 | .anewarray _ => 3 | .invokevirtual _ => 3 | .invokestatic _ => 3 | .invokespecial _ => 3
  | _ => 1
def gc_tagty (t : Nat) : FieldType := match t with
  | 0 => .int
  | 1 => .byte
  | 2 => .long
  | _ => .boolean
def gc_tyOk (t : Nat) (ty : Option FieldType) : Bool := match t, ty with
  | 0, some .int => true
  | 1, some .long => true
  | 2, some (.object _) => true
  | 2, some (.array _) => true
  | 3, some .boolean => true
  | _, _ => false
def gc_okI (y pc : Nat) (ins : Instr) (r1 r2 : Nat) (cn : Int32) : Bool := match ins with
  | .istore_n n => decide (n.val < gc_mL y)
  | .istore n => decide (n < gc_mL y)
  | .astore_n n => decide (n.val < gc_mL y)
  | .astore n => decide (n < gc_mL y)
  | .lstore_n n => decide (n.val + 1 < gc_mL y)
  | .lstore n => decide (n + 1 < gc_mL y)
  | .iinc n k => decide (n < gc_mL y) && decide (Int32.ofInt k = cn)
  | .iconst k => decide (Int32.ofInt k = cn)
  | .bipush k => decide ((Int8.ofInt k).toInt32 = cn)
  | .sipush k => decide ((Int16.ofInt k).toInt32 = cn)
  | .ldc i => decide (Cond.constant (gc_mN y).cls i cn ∈ gc_lk (gc_mC y))
  | .ldc_w i => decide (Cond.constant (gc_mN y).cls i cn ∈ gc_lk (gc_mC y))
  | .ldc2_w i => decide (Cond.constantLong (gc_mN y).cls i (Int64.ofNat r1) ∈ gc_lk (gc_mC y))
  | .ifCond _ o => decide ((pc : Int) + o = (r1 : Int))
  | .if_icmp _ o => decide ((pc : Int) + o = (r1 : Int))
  | .ifnonnull o => decide ((pc : Int) + o = (r1 : Int))
  | .goto o => decide ((pc : Int) + o = (r1 : Int))
  | .tableswitch df lo hi offs => decide (lo + (offs.toList.length : Int) = hi + 1) && (decide (0 ≤ (pc : Int) + df) && offs.toList.all (fun o => decide (0 ≤ (pc : Int) + o)))
  | .lookupswitch df ps => decide ((ps.toList.zip (ps.toList.drop 1)).all (fun (a, next) => a.1 < next.1) = true) && (decide (0 ≤ (pc : Int) + df) && ps.toList.all (fun o => decide (0 ≤ (pc : Int) + o.2)))
  | .getfield i => match vwCl[r1]? with
    | some q => decide (r2 / 4 < q.2.2) && decide (Cond.fieldLink (gc_mN y).cls i (q.2.1 (r2 / 4)).1 (q.2.1 (r2 / 4)).2.1 (q.2.1 (r2 / 4)).2.2.1 ∈ gc_lk (gc_mC y))
    | none => false
  | .putfield i => match vwCl[r1]? with
    | some q => decide (r2 / 4 < q.2.2) && (decide (Cond.fieldLink (gc_mN y).cls i (q.2.1 (r2 / 4)).1 (q.2.1 (r2 / 4)).2.1 (q.2.1 (r2 / 4)).2.2.1 ∈ gc_lk (gc_mC y)) && ((decide ((q.2.1 (r2 / 4)).2.2.2 = false) || (decide ((q.2.1 (r2 / 4)).2.2.2 = true) && (decide ((gc_mN y).name = "<init>") && decide ((q.2.1 (r2 / 4)).1 = (gc_mN y).cls)))) && gc_tyOk (r2 % 4) (parseFieldDescriptor (q.2.1 (r2 / 4)).2.2.1)))
    | none => false
  | .new i => match vwCl[r1]? with
    | some q => decide (Cond.classLink (gc_mN y).cls i q.1 ∈ gc_lk (gc_mC y))
    | none => false
  | .newarray t => decide (r1 < 4) && decide (Op.newarray.typeOf t = gc_tagty r1)
  | .anewarray i => (decide (r1 = 4) && decide (Cond.classLink (gc_mN y).cls i "[I" ∈ gc_lk (gc_mC y))) || (decide (r1 = 5) && decide (Cond.classLink (gc_mN y).cls i "GroundCourt$Hand" ∈ gc_lk (gc_mC y)))
  | .invokevirtual i => decide (r1 < gc_NM) && (decide (gc_mK r1 = 1) && (decide (r2 = gc_mP r1 + 1) && (decide (Cond.methodLink (gc_mN y).cls i (gc_mN r1) ∈ gc_lk (gc_mC y)) || decide (((gc_mN y).cls, i, gc_mN r1, "GroundCourt") ∈ gc_ns))))
  | .invokestatic i => (decide (r1 = 1000) && decide (Cond.methodLink (gc_mN y).cls i Lib.Math.max.name ∈ gc_lk (gc_mC y))) || (decide (r1 = 1001) && decide (Cond.methodLink (gc_mN y).cls i Lib.Math.min.name ∈ gc_lk (gc_mC y))) || (decide (r1 = 1002) && decide (Cond.methodLink (gc_mN y).cls i arraycopyName ∈ gc_lk (gc_mC y))) || (decide (r1 < gc_NM) && (decide (gc_mK r1 = 0) && (decide (r2 = gc_mP r1) && (decide (Cond.methodLink (gc_mN y).cls i (gc_mN r1) ∈ gc_lk (gc_mC y)) || decide (((gc_mN y).cls, i, gc_mN r1, "GroundCourt") ∈ gc_ns)))))
  | .invokespecial i => (decide (r1 = 999) && decide (Cond.methodLink (gc_mN y).cls i objectInit ∈ gc_lk (gc_mC y))) || (decide (r1 < gc_NM) && (decide (gc_mK r1 = 2) && (decide (r2 = gc_mP r1 + 1) && (decide (Cond.methodLink (gc_mN y).cls i (gc_mN r1) ∈ gc_lk (gc_mC y)) || decide (((gc_mN y).cls, i, gc_mN r1, "GroundCourt") ∈ gc_ns)))))
  | .ireturn => (decide (r1 = 0) && decide (gc_mR y = some .int)) || (decide (r1 = 1) && decide (gc_mR y = some .boolean))
  | .lreturn => decide (gc_mR y = some .long)
  | .areturn => decide (gc_mR y = some (.array .int))
  | .return_ => decide (gc_mR y = none)
  | _ => true
def gc_sw : Instr → Bool
  | .tableswitch _ _ _ _ => true
  | .lookupswitch _ _ => true
  | _ => false
def gc_okE (y : Nat) (el : gc_El) : Bool := decide (el.2.2.1 = .nop) || (decide (decode (gc_mB y) el.1 = .ok (el.2.2.1, el.2.1 - el.1)) && ((gc_sw el.2.2.1 || decide (el.2.1 = el.1 + gc_len el.2.2.1)) && gc_okI y el.1 el.2.2.1 el.2.2.2.1 el.2.2.2.2.1 el.2.2.2.2.2))
def gc_chain : List gc_El → Bool
  | a :: b :: r => decide (a.2.1 = b.1) && gc_chain (b :: r)
  | _ => true
/-- what a call wants to know of the method that it calls -/
def gc_okM (y : Nat) : Prop := Cond.code (gc_mN y) (gc_mB y) (gc_mL y) (gc_mR y) ∈ gc_tb ∧ Cond.initialized (gc_mN y).cls ∈ gc_tb ∧ plainName (gc_mN y).cls = true ∧ (gc_mN y).cls ≠ "java/lang/invoke/MethodHandle" ∧ (gc_mN y).cls ≠ "java/lang/invoke/VarHandle" ∧ (parseMethodDescriptor (gc_mN y).desc).map (fun d => d.parameters.length) = some (gc_mP y) ∧ gc_mL y ≤ 40
  ∧ (gc_mK y = 0 → Cond.static (gc_mN y) ∈ gc_tb) ∧ (gc_mK y = 1 → Cond.instanceMethod (gc_mN y) ∈ gc_tb ∧ Cond.selects (gc_mN y).cls (gc_mN y) (gc_mN y) ∈ gc_tb ∧ ∃ q, vwCl[gc_mC y]? = some q ∧ q.1 = (gc_mN y).cls) ∧ (gc_mK y = 2 → (gc_mN y).name = "<init>" ∧ Cond.instanceMethod (gc_mN y) ∈ gc_tb ∧ gc_mR y = none)
def gc_okP : Prop := (∀ y, y < gc_NM → (∀ el ∈ gc_cd y, gc_okE y el = true) ∧ gc_chain (gc_cd y) = true ∧ gc_okM y) ∧ Cond.instanceMethod objectInit ∈ gc_tb ∧ Cond.code objectInit ⟨#[0xb1]⟩ 1 none ∈ gc_tb ∧ (∀ t, t < 4 → Cond.arrayClass (gc_tagty t) ∈ gc_tb) ∧ Cond.native arraycopyName ∈ gc_tb ∧ Cond.static arraycopyName ∈ gc_tb ∧ Cond.initialized "java/lang/System" ∈ gc_tb ∧ Cond.initialized "java/lang/Math" ∈ gc_tb ∧ Cond.static Lib.Math.max.name ∈ gc_tb ∧ Cond.code Lib.Math.max.name Lib.Math.max.code 2 (some .int) ∈ gc_tb ∧ Cond.static Lib.Math.min.name ∈ gc_tb ∧ Cond.code Lib.Math.min.name Lib.Math.min.code 2 (some .int) ∈ gc_tb
/-- a predicate closed under the blocks of the program -/
def gc_Cl (P : gc_Pr) : Prop := ∀ (d kc ks y pc : Nat) (lv st : List Value) (S : gc_H) (Q : gc_Q) (es : List gc_El), y < gc_NM → es <+: (gc_cd y).dropWhile (fun e => e.1 != pc) → es ≠ [] → gc_blk P gc_mL gc_mC gc_dfl d y Q es pc kc ks lv st S → P d kc ks y pc lv st S Q
/-! the great machine as such a predicate -/
def gc_rm (d Mc Ms : Nat) : Room := { frames := d, cells := Mc, slots := Ms, locals := 60 * d }
def gc_Cx (D : va_G) (cy : Nat → ClassId) (B : Nat) (p : Program) (s : State) (m : MethodId) (args : Array Value) (meth : Method) (c : Code) (y : Nat) : Prop :=
  p.tables.exec = Jvm.exec ∧ c.code = gc_mB y ∧ c.maxLocals = gc_mL y ∧ meth.sig.returnType = gc_mR y ∧ (∀ w ∈ gc_tb, w.before args s = true) ∧ s.vm.findClass (gc_mN y).cls = some m.cls ∧ meth.locks = false ∧ meth.name = (gc_mN y).name ∧ va_K D vwCl (gc_tys cy) s ∧ gc_Nw s ∧ B ≤ s.heap.size
def gc_QQ (D : va_G) (cy : Nat → ClassId) (B Mc : Nat) (Q : gc_Q) : Array Value → State → Outcome → State → Prop := fun _ st o t => ∃ r S', o = .returned (r.map (gc_tr B)) ∧ Q r S' ∧ gc_Wo D cy B S' t.heap ∧ va_F (gc_A B) st t ∧ B + S'.1 = st.heap.size + Mc
def gc_P0 (l : Launch) (D : va_G) (cy : Nat → ClassId) (B : Nat) : gc_Pr := fun d kc ks y pc lv st S Q =>
  ∀ (p : Program) (e : Env) (s : State) (m : MethodId) (args : Array Value) (below : List Frame) (meth : Method) (c : Code) (H : Heap) (locs : List Loc) (cells slots : Nat) (ls : Array Slot) (Mc Ms : Nat),
    gc_Cx D cy B p s m args meth c y → gc_Wo D cy B S H → va_S (gc_A B) s.heap H locs → gc_lv B ls (gc_mL y) lv → s.heap.size + cells = B + S.1 → cells + kc = Mc → slots + ks ≤ Ms →
    W p l e (gc_rm d Mc Ms) s m args below meth c H locs cells slots (MQ below (gc_QQ D cy B Mc Q) args s Mc Ms (gc_A B)) (F0 m pc ls (st.map (gc_tr B)))
theorem gc_P0.go {l : Launch} {D : va_G} {cy : Nat → ClassId} {B d kc ks y pc : Nat} {lv st : List Value} {S : gc_H} {Q : gc_Q} (h : gc_P0 l D cy B d kc ks y pc lv st S Q)
    {p : Program} {e : Env} {s : State} {m : MethodId} {args : Array Value} {below : List Frame} {meth : Method} {c : Code} {H : Heap} {locs : List Loc} {cells slots : Nat} {ls : Array Slot} {Mc Ms : Nat}
    (Cx : gc_Cx D cy B p s m args meth c y) (hWo : gc_Wo D cy B S H) (hS : va_S (gc_A B) s.heap H locs) (hl : gc_lv B ls (gc_mL y) lv) (hz : s.heap.size + cells = B + S.1) (h1 : cells + kc = Mc) (h2 : slots + ks ≤ Ms) :
    W p l e (gc_rm d Mc Ms) s m args below meth c H locs cells slots (MQ below (gc_QQ D cy B Mc Q) args s Mc Ms (gc_A B)) (F0 m pc ls (st.map (gc_tr B))) := h p e s m args below meth c H locs cells slots ls Mc Ms Cx hWo hS hl hz h1 h2
/-- a method's contract out of it -/
theorem gc_met {l : Launch} {D : va_G} {cy : Nat → ClassId} {B d kc ks y : Nat} {As : List Value} {S : gc_H} {Q : gc_Q} (hM : gc_okM y) (hlen : (gc_ent As).length ≤ gc_mL y)
    (h : gc_P0 l D cy B d kc ks y 0 (gc_pad (gc_mL y) (gc_ent As)) [] S Q) :
    Met l (gc_mN y) (.code (gc_mN y) (gc_mB y) (gc_mL y) (gc_mR y) :: gc_tb) (gc_rm d kc ks) (va_Pc (As.map (gc_tr B)) (fun U => gc_Wo D cy B S U.heap ∧ va_K D vwCl (gc_tys cy) U ∧ gc_Nw U)) (gc_QQ D cy B kc Q) kc ks (gc_A B) := by
  refine Met.ofW (cc := gc_mB y) (maxL := gc_mL y) (ret := gc_mR y) hM.2.2.1 rfl ?_
  intro p e s m args below meth c s₁ Bd hml hv
  obtain ⟨rfl, hWo, hK, hN⟩ := hv
  have hts := atoms_spec (ws := .code (gc_mN y) (gc_mB y) (gc_mL y) (gc_mR y) :: gc_tb) Bd.pre
  rw [lg_entry_eq]
  refine h.go ⟨Bd.exec, Bd.bytes, hml, Bd.returns, fun w hw => hts w (List.mem_cons_of_mem _ hw), findClass_of_methodNamed Bd.named, Bd.notSynchronized, (name_of_methodNamed Bd.named Bd.method).1, hK, hN, ?_⟩ hWo va_S.rf (gc_lv_entry As hlen) hWo.1 (by omega) (by omega)
  rw [hWo.1]
  exact Nat.le_add_right _ _
