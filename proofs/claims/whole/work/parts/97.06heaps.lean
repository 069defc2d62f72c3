/-! The heaps of the constructors. -/
def ev_cq (a b : ev_C) : Bool := match a, b with
  | .inl a, .inl b => decide (a.1 = b.1) && (decide (a.2.1 = b.2.1) && decide (a.2.2 = b.2.2))
  | .inr a, .inr b => decide (a.1 = b.1) && decide (a.2 = b.2)
  | _, _ => false
theorem ev_cq_s {a b : ev_C} (h : ev_cq a b = true) : a = b := by
  unfold ev_cq at h
  split at h
  · simp only [Bool.and_eq_true, decide_eq_true_eq] at h
    exact congrArg Sum.inl (Prod.ext h.1 (Prod.ext h.2.1 h.2.2))
  · simp only [Bool.and_eq_true, decide_eq_true_eq] at h
    exact congrArg Sum.inr (Prod.ext h.1 h.2)
  · exact absurd h (by simp)
def ev_lq : List ev_C → List ev_C → Bool
  | [], [] => true
  | a :: l, b :: k => ev_cq a b && ev_lq l k
  | _, _ => false
theorem ev_lq_s : ∀ {a b : List ev_C}, ev_lq a b = true → a = b
  | [], [], _ => rfl
  | a :: l, b :: k, h => by
    unfold ev_lq at h
    rw [Bool.and_eq_true] at h
    rw [ev_cq_s h.1, ev_lq_s h.2]
  | [], _ :: _, h => absurd h (by simp [ev_lq])
  | _ :: _, [], h => absurd h (by simp [ev_lq])
def ev_oq (a : ev_O) (c s : Nat) (lv st : List Value) (L : List ev_C) : Bool := match a with
  | some (c', s', lv', st', L') => decide (c' = c) && (decide (s' = s) && (decide (lv' = lv) && (decide (st' = st) && ev_lq L' L)))
  | none => false
theorem ev_oq_s {a : ev_O} {c s : Nat} {lv st : List Value} {L : List ev_C} (h : ev_oq a c s lv st L = true) : a = some (c, s, lv, st, L) := by
  unfold ev_oq at h
  split at h
  · simp only [Bool.and_eq_true, decide_eq_true_eq] at h
    obtain ⟨rfl, rfl, rfl, rfl, h⟩ := h
    rw [ev_lq_s h]
  · exact absurd h (by simp)
def ev_rq (a : ev_R) (c s : Nat) (r : Option Value) (L : List ev_C) : Bool := match a with
  | some (c', s', r', L') => decide (c' = c) && (decide (s' = s) && (decide (r' = r) && ev_lq L' L))
  | none => false
theorem ev_rq_s {a : ev_R} {c s : Nat} {r : Option Value} {L : List ev_C} (h : ev_rq a c s r L = true) : a = some (c, s, r, L) := by
  unfold ev_rq at h
  split at h
  · simp only [Bool.and_eq_true, decide_eq_true_eq] at h
    obtain ⟨rfl, rfl, rfl, h⟩ := h
    rw [ev_lq_s h]
  · exact absurd h (by simp)
def hp_1 : List ev_C := [.inr (10, [.ref 1, .null, .null, .null, .null, .null, .null, .null, .null, .null, .null, .null, .int 0]), .inr (7, [.ref 2, .int 0]), .inl (1, 2000, []), .inr (8, [.null, .null, .null, .null, .null, .null, .int 0, .int 0, .int 0, .long 0, .int 0, .int 0, .int 0, .int 0, .int 0, .int 0])]
def tkw : List Int64 := [254268868, 493192, 2200143150, 3540269, 7657651, 498, 1497, 15556945351, 595572, 186546, 307, 474565, 595572, 398548, 19176724, 164968, 20459828, 186546, 7657646, 22117]
def tkU : Nat → List (Nat × Value)
  | 0 => []
  | k + 1 => (k, .long (tkw.getD k 0)) :: tkU k
def tkH (us : List (Nat × Value)) : List ev_C := [.inr (10, [.ref 1, .null, .null, .null, .null, .null, .null, .null, .null, .null, .null, .null, .int 0]), .inr (7, [.ref 2, .int 0]), .inl (1, 2000, []), .inr (8, [.ref 1, .null, .ref 4, .ref 5, .ref 6, .ref 7, .int 0, .int 0, .int 0, .long 0, .int 0, .int 0, .int 0, .int 0, .int 0, .int 0]), .inl (0, 401, []), .inl (0, 401, []), .inl (2, 401, []), .inl (0, 401, []), .inl (2, 20, us)]
def hp_2 : List ev_C := [.inr (10, [.ref 1, .null, .null, .null, .null, .null, .null, .null, .null, .null, .null, .null, .int 0]), .inr (7, [.ref 2, .int 0]), .inl (1, 2000, []), .inr (8, [.ref 1, .ref 8, .ref 4, .ref 5, .ref 6, .ref 7, .int 0, .int 0, .int 0, .long 0, .int 0, .int 0, .int 0, .int 0, .int 0, .int 0]), .inl (0, 401, []), .inl (0, 401, []), .inl (2, 401, []), .inl (0, 401, []), .inl (2, 20, [(19, .long 22117), (18, .long 7657646), (17, .long 186546), (16, .long 20459828), (15, .long 164968), (14, .long 19176724), (13, .long 398548), (12, .long 595572), (11, .long 474565), (10, .long 307), (9, .long 186546), (8, .long 595572), (7, .long 15556945351), (6, .long 1497), (5, .long 498), (4, .long 7657651), (3, .long 3540269), (2, .long 2200143150), (1, .long 493192), (0, .long 254268868)])]
def hp_c : List ev_C := [.inr (10, [.ref 1, .ref 3, .ref 9, .ref 28, .ref 10, .ref 32, .ref 36, .ref 40, .ref 44, .ref 49, .ref 50, .ref 54, .int (-1)]), .inr (7, [.ref 2, .int 0]), .inl (1, 2000, []), .inr (8, [.ref 1, .ref 8, .ref 4, .ref 5, .ref 6, .ref 7, .int 0, .int 0, .int 0, .long 0, .int 0, .int 0, .int 0, .int 0, .int 0, .int 0]), .inl (0, 401, []), .inl (0, 401, []), .inl (2, 401, []), .inl (0, 401, []), .inl (2, 20, [(19, .long 22117), (18, .long 7657646), (17, .long 186546), (16, .long 20459828), (15, .long 164968), (14, .long 19176724), (13, .long 398548), (12, .long 595572), (11, .long 474565), (10, .long 307), (9, .long 186546), (8, .long 595572), (7, .long 15556945351), (6, .long 1497), (5, .long 498), (4, .long 7657651), (3, .long 3540269), (2, .long 2200143150), (1, .long 493192), (0, .long 254268868)]), .inr (3, [.ref 3, .null, .int 0]), .inr (0, [.ref 11, .int 1, .ref 24, .ref 25, .ref 26, .ref 27]), .inr (2, [.int 0, .int 0, .int 0, .int 0, .int 0, .int 0, .int 0, .ref 12, .ref 13, .ref 14, .ref 15, .ref 16, .ref 17, .ref 18, .ref 19, .ref 20, .ref 21, .ref 22, .ref 23]), .inl (0, 4, []), .inl (0, 6, []), .inl (0, 6, []), .inl (0, 6, []), .inl (0, 6, []), .inl (0, 6, []), .inl (0, 24, []), .inl (0, 24, []), .inl (0, 24, []), .inl (0, 24, []), .inl (2, 16, []), .inl (0, 16, []), .inl (0, 1536, []), .inl (4, 1536, []), .inl (0, 256, []), .inl (0, 3072, []), .inr (6, [.ref 3, .ref 10, .ref 29, .ref 30, .ref 31, .int 0, .int 0, .int 0, .int 0, .int 0, .int 0, .int 0, .int 0, .int 0, .int 0, .int 0, .int 0, .int 0, .int 0, .int 0]), .inl (0, 64, []), .inl (0, 64, []), .inl (0, 64, []), .inr (4, [.ref 10, .int 0, .int 0, .int 0, .int 0, .int 0, .int 0, .int 0, .int 0, .int 0, .ref 33, .ref 34, .ref 35]), .inl (0, 2, []), .inl (0, 2, []), .inl (0, 2, []), .inr (9, [.ref 32, .ref 37, .ref 38, .ref 39, .int 0, .int 0]), .inl (0, 64, []), .inl (0, 64, []), .inl (0, 64, []), .inr (9, [.ref 32, .ref 41, .ref 42, .ref 43, .int 0, .int 0]), .inl (0, 64, []), .inl (0, 64, []), .inl (0, 64, []), .inr (5, [.ref 10, .ref 45, .ref 46, .int 0, .int 0, .int 0, .ref 47, .ref 48]), .inr (1, [.int 0, .int 0, .int 0, .int 0]), .inl (0, 0, []), .inl (0, 6, []), .inl (0, 6, []), .inr (1, [.int 0, .int 0, .int 0, .int 0]), .inl (5, 3, [(2, .ref 53), (1, .ref 52), (0, .ref 51)]), .inr (1, [.int 0, .int 0, .int 0, .int 0]), .inr (1, [.int 0, .int 0, .int 0, .int 0]), .inr (1, [.int 0, .int 0, .int 0, .int 0]), .inr (2, [.int 0, .int 0, .int 0, .int 0, .int 0, .int 0, .int 0, .ref 55, .ref 56, .ref 57, .ref 58, .ref 59, .ref 60, .ref 61, .ref 62, .ref 63, .ref 64, .ref 65, .ref 66]), .inl (0, 4, []), .inl (0, 6, []), .inl (0, 6, []), .inl (0, 6, []), .inl (0, 6, []), .inl (0, 6, []), .inl (0, 24, []), .inl (0, 24, []), .inl (0, 24, []), .inl (0, 24, []), .inl (2, 16, []), .inl (0, 16, [])]
def hp_r : List ev_C := [.inr (11, [.int 0, .ref 68, .ref 69, .int 0, .ref 70, .int 0, .ref 71, .ref 72, .ref 73, .ref 74, .ref 75, .int 0, .int 0, .int 0, .int 0, .int 0, .int 0, .int 0, .int (-1), .int 0, .int 0, .int 0, .ref 76, .ref 77, .ref 78, .ref 79, .ref 80, .ref 81, .ref 82, .ref 83, .ref 84, .ref 85, .ref 86, .ref 87, .ref 88, .ref 89, .ref 90, .ref 91, .ref 92, .ref 93, .ref 94, .ref 95, .ref 96, .int 0, .ref 97, .ref 98, .int 0, .ref 99, .int 0, .int 0, .int 0, .int 0, .ref 100, .int (-1), .int 0, .ref 101, .ref 102, .ref 103, .ref 104, .ref 105, .int 0, .ref 106, .ref 107, .ref 108, .int 0, .int 0, .int 0, .int 0, .int 0, .int 0, .int 0, .int 0, .ref 109, .int 0, .ref 110, .int 0, .int 0, .int 0, .ref 111, .int 0, .ref 112, .ref 113, .ref 114, .ref 115]), .inl (2, 8, [(7, .long 15827), (6, .long 10421318), (5, .long 99233), (4, .long 3913421), (3, .long 9748424), (2, .long 240023), (1, .long 286880), (0, .long 262)]), .inl (1, 2000, []), .inl (1, 2000, []), .inl (0, 403, []), .inl (0, 403, []), .inl (0, 403, []), .inl (2, 403, []), .inl (2, 10, [(9, .long 114606), (8, .long 1132), (7, .long 358472), (6, .long 5649913681), (5, .long 1831504), (4, .long 423), (3, .long 798894590), (2, .long 3913426), (1, .long 296522), (0, .long 110319223)]), .inl (2, 32, []), .inl (0, 32, []), .inl (0, 32, []), .inl (0, 2, []), .inl (0, 2, []), .inl (0, 8, []), .inl (0, 8, []), .inl (0, 2, []), .inl (0, 6, []), .inl (0, 6, []), .inl (0, 2, []), .inl (0, 6, []), .inl (0, 6, []), .inl (0, 6, []), .inl (0, 2, []), .inl (0, 12, []), .inl (0, 12, []), .inl (0, 2, []), .inl (0, 48, []), .inl (0, 48, []), .inl (0, 48, []), .inl (0, 420, []), .inl (0, 420, []), .inl (0, 420, []), .inl (0, 49152, []), .inl (0, 2060, []), .inl (0, 2060, []), .inl (0, 2060, []), .inl (0, 2060, []), .inl (0, 2060, []), .inl (0, 80, []), .inl (0, 80, []), .inl (0, 80, []), .inl (0, 420, []), .inl (3, 131072, []), .inl (0, 80, []), .inl (3, 3, []), .inl (0, 3, []), .inl (0, 3, []), .inl (0, 3, [])]
def tkE0 : List gc_El := [(4, 5, .aload_n 0, 0, 0, 0), (5, 8, .sipush 401, 0, 0, 401), (8, 10, .newarray .int, 0, 0, 0), (10, 13, .putfield 9, 8, 10, 0), (13, 14, .aload_n 0, 0, 0, 0), (14, 17, .sipush 401, 0, 0, 401), (17, 19, .newarray .int, 0, 0, 0), (19, 22, .putfield 15, 8, 14, 0), (22, 23, .aload_n 0, 0, 0, 0), (23, 26, .sipush 401, 0, 0, 401), (26, 28, .newarray .long, 2, 0, 0), (28, 31, .putfield 18, 8, 18, 0), (31, 32, .aload_n 0, 0, 0, 0), (32, 35, .sipush 401, 0, 0, 401), (35, 37, .newarray .int, 0, 0, 0), (37, 40, .putfield 22, 8, 22, 0), (40, 41, .aload_n 0, 0, 0, 0), (41, 42, .aload_n 1, 0, 0, 0), (42, 45, .putfield 25, 8, 2, 0), (45, 46, .aload_n 0, 0, 0, 0), (46, 48, .bipush 20, 0, 0, 20), (48, 50, .newarray .long, 2, 0, 0), (50, 51, .dup, 0, 0, 0), (51, 52, .iconst 0, 0, 0, 0)]
def tkE1 : List gc_El := [(57, 58, .lastore, 0, 0, 0), (58, 59, .dup, 0, 0, 0), (59, 60, .iconst 1, 0, 0, 1)]
def tkE2 : List gc_El := [(65, 66, .lastore, 0, 0, 0), (66, 67, .dup, 0, 0, 0), (67, 68, .iconst 2, 0, 0, 2)]
def tkE3 : List gc_El := [(73, 74, .lastore, 0, 0, 0), (74, 75, .dup, 0, 0, 0), (75, 76, .iconst 3, 0, 0, 3)]
def tkE4 : List gc_El := [(81, 82, .lastore, 0, 0, 0), (82, 83, .dup, 0, 0, 0), (83, 84, .iconst 4, 0, 0, 4)]
def tkE5 : List gc_El := [(89, 90, .lastore, 0, 0, 0), (90, 91, .dup, 0, 0, 0), (91, 92, .iconst 5, 0, 0, 5)]
def tkE6 : List gc_El := [(97, 98, .lastore, 0, 0, 0), (98, 99, .dup, 0, 0, 0), (99, 101, .bipush 6, 0, 0, 6)]
def tkE7 : List gc_El := [(106, 107, .lastore, 0, 0, 0), (107, 108, .dup, 0, 0, 0), (108, 110, .bipush 7, 0, 0, 7)]
def tkE8 : List gc_El := [(115, 116, .lastore, 0, 0, 0), (116, 117, .dup, 0, 0, 0), (117, 119, .bipush 8, 0, 0, 8)]
def tkE9 : List gc_El := [(124, 125, .lastore, 0, 0, 0), (125, 126, .dup, 0, 0, 0), (126, 128, .bipush 9, 0, 0, 9)]
def tkE10 : List gc_El := [(133, 134, .lastore, 0, 0, 0), (134, 135, .dup, 0, 0, 0), (135, 137, .bipush 10, 0, 0, 10)]
def tkE11 : List gc_El := [(142, 143, .lastore, 0, 0, 0), (143, 144, .dup, 0, 0, 0), (144, 146, .bipush 11, 0, 0, 11)]
def tkE12 : List gc_El := [(151, 152, .lastore, 0, 0, 0), (152, 153, .dup, 0, 0, 0), (153, 155, .bipush 12, 0, 0, 12)]
def tkE13 : List gc_El := [(160, 161, .lastore, 0, 0, 0), (161, 162, .dup, 0, 0, 0), (162, 164, .bipush 13, 0, 0, 13)]
def tkE14 : List gc_El := [(169, 170, .lastore, 0, 0, 0), (170, 171, .dup, 0, 0, 0), (171, 173, .bipush 14, 0, 0, 14)]
def tkE15 : List gc_El := [(178, 179, .lastore, 0, 0, 0), (179, 180, .dup, 0, 0, 0), (180, 182, .bipush 15, 0, 0, 15)]
def tkE16 : List gc_El := [(187, 188, .lastore, 0, 0, 0), (188, 189, .dup, 0, 0, 0), (189, 191, .bipush 16, 0, 0, 16)]
def tkE17 : List gc_El := [(196, 197, .lastore, 0, 0, 0), (197, 198, .dup, 0, 0, 0), (198, 200, .bipush 17, 0, 0, 17)]
def tkE18 : List gc_El := [(205, 206, .lastore, 0, 0, 0), (206, 207, .dup, 0, 0, 0), (207, 209, .bipush 18, 0, 0, 18)]
def tkE19 : List gc_El := [(214, 215, .lastore, 0, 0, 0), (215, 216, .dup, 0, 0, 0), (216, 218, .bipush 19, 0, 0, 19)]
def tkE20 : List gc_El := [(223, 224, .lastore, 0, 0, 0), (224, 227, .putfield 69, 8, 6, 0)]
set_option maxRecDepth 100000 in
theorem tk_ok : (∀ el ∈ tkE0, gc_okE 91 el = true) ∧ gc_chain tkE0 = true := by decide +kernel
set_option maxRecDepth 100000 in
theorem tk_ok1 : (∀ el ∈ tkE1, gc_okE 91 el = true) ∧ gc_chain tkE1 = true := by decide +kernel
set_option maxRecDepth 100000 in
theorem tk_ok2 : (∀ el ∈ tkE2, gc_okE 91 el = true) ∧ gc_chain tkE2 = true := by decide +kernel
set_option maxRecDepth 100000 in
theorem tk_ok3 : (∀ el ∈ tkE3, gc_okE 91 el = true) ∧ gc_chain tkE3 = true := by decide +kernel
set_option maxRecDepth 100000 in
theorem tk_ok4 : (∀ el ∈ tkE4, gc_okE 91 el = true) ∧ gc_chain tkE4 = true := by decide +kernel
set_option maxRecDepth 100000 in
theorem tk_ok5 : (∀ el ∈ tkE5, gc_okE 91 el = true) ∧ gc_chain tkE5 = true := by decide +kernel
set_option maxRecDepth 100000 in
theorem tk_ok6 : (∀ el ∈ tkE6, gc_okE 91 el = true) ∧ gc_chain tkE6 = true := by decide +kernel
set_option maxRecDepth 100000 in
theorem tk_ok7 : (∀ el ∈ tkE7, gc_okE 91 el = true) ∧ gc_chain tkE7 = true := by decide +kernel
set_option maxRecDepth 100000 in
theorem tk_ok8 : (∀ el ∈ tkE8, gc_okE 91 el = true) ∧ gc_chain tkE8 = true := by decide +kernel
set_option maxRecDepth 100000 in
theorem tk_ok9 : (∀ el ∈ tkE9, gc_okE 91 el = true) ∧ gc_chain tkE9 = true := by decide +kernel
set_option maxRecDepth 100000 in
theorem tk_ok10 : (∀ el ∈ tkE10, gc_okE 91 el = true) ∧ gc_chain tkE10 = true := by decide +kernel
set_option maxRecDepth 100000 in
theorem tk_ok11 : (∀ el ∈ tkE11, gc_okE 91 el = true) ∧ gc_chain tkE11 = true := by decide +kernel
set_option maxRecDepth 100000 in
theorem tk_ok12 : (∀ el ∈ tkE12, gc_okE 91 el = true) ∧ gc_chain tkE12 = true := by decide +kernel
set_option maxRecDepth 100000 in
theorem tk_ok13 : (∀ el ∈ tkE13, gc_okE 91 el = true) ∧ gc_chain tkE13 = true := by decide +kernel
set_option maxRecDepth 100000 in
theorem tk_ok14 : (∀ el ∈ tkE14, gc_okE 91 el = true) ∧ gc_chain tkE14 = true := by decide +kernel
set_option maxRecDepth 100000 in
theorem tk_ok15 : (∀ el ∈ tkE15, gc_okE 91 el = true) ∧ gc_chain tkE15 = true := by decide +kernel
set_option maxRecDepth 100000 in
theorem tk_ok16 : (∀ el ∈ tkE16, gc_okE 91 el = true) ∧ gc_chain tkE16 = true := by decide +kernel
set_option maxRecDepth 100000 in
theorem tk_ok17 : (∀ el ∈ tkE17, gc_okE 91 el = true) ∧ gc_chain tkE17 = true := by decide +kernel
set_option maxRecDepth 100000 in
theorem tk_ok18 : (∀ el ∈ tkE18, gc_okE 91 el = true) ∧ gc_chain tkE18 = true := by decide +kernel
set_option maxRecDepth 100000 in
theorem tk_ok19 : (∀ el ∈ tkE19, gc_okE 91 el = true) ∧ gc_chain tkE19 = true := by decide +kernel
set_option maxRecDepth 100000 in
theorem tk_ok20 : (∀ el ∈ tkE20, gc_okE 91 el = true) ∧ gc_chain tkE20 = true := by decide +kernel
set_option maxRecDepth 100000 in
theorem tk_okR : gc_okE 91 (227, 228, .return_, 0, 0, 0) = true := by decide +kernel
set_option maxRecDepth 100000 in
theorem tk_ev0 : ev_p 1 5 tkE0 [.ref 3, .ref 1] [] hp_1 = some (5, 1624, [.ref 3, .ref 1], [.int 0, .ref 8, .ref 8, .ref 3], tkH (tkU 0)) := ev_oq_s (by decide +kernel)
set_option maxRecDepth 100000 in
theorem tk_ev1 : ev_p 1 5 tkE1 [.ref 3, .ref 1] [.long (tkw.getD 0 0), .int 0, .ref 8, .ref 8, .ref 3] (tkH (tkU 0)) = some (0, 0, [.ref 3, .ref 1], [.int 1, .ref 8, .ref 8, .ref 3], tkH (tkU 1)) := ev_oq_s (by decide +kernel)
set_option maxRecDepth 100000 in
theorem tk_ev2 : ev_p 1 5 tkE2 [.ref 3, .ref 1] [.long (tkw.getD 1 0), .int 1, .ref 8, .ref 8, .ref 3] (tkH (tkU 1)) = some (0, 0, [.ref 3, .ref 1], [.int 2, .ref 8, .ref 8, .ref 3], tkH (tkU 2)) := ev_oq_s (by decide +kernel)
set_option maxRecDepth 100000 in
theorem tk_ev3 : ev_p 1 5 tkE3 [.ref 3, .ref 1] [.long (tkw.getD 2 0), .int 2, .ref 8, .ref 8, .ref 3] (tkH (tkU 2)) = some (0, 0, [.ref 3, .ref 1], [.int 3, .ref 8, .ref 8, .ref 3], tkH (tkU 3)) := ev_oq_s (by decide +kernel)
set_option maxRecDepth 100000 in
theorem tk_ev4 : ev_p 1 5 tkE4 [.ref 3, .ref 1] [.long (tkw.getD 3 0), .int 3, .ref 8, .ref 8, .ref 3] (tkH (tkU 3)) = some (0, 0, [.ref 3, .ref 1], [.int 4, .ref 8, .ref 8, .ref 3], tkH (tkU 4)) := ev_oq_s (by decide +kernel)
set_option maxRecDepth 100000 in
theorem tk_ev5 : ev_p 1 5 tkE5 [.ref 3, .ref 1] [.long (tkw.getD 4 0), .int 4, .ref 8, .ref 8, .ref 3] (tkH (tkU 4)) = some (0, 0, [.ref 3, .ref 1], [.int 5, .ref 8, .ref 8, .ref 3], tkH (tkU 5)) := ev_oq_s (by decide +kernel)
set_option maxRecDepth 100000 in
theorem tk_ev6 : ev_p 1 5 tkE6 [.ref 3, .ref 1] [.long (tkw.getD 5 0), .int 5, .ref 8, .ref 8, .ref 3] (tkH (tkU 5)) = some (0, 0, [.ref 3, .ref 1], [.int 6, .ref 8, .ref 8, .ref 3], tkH (tkU 6)) := ev_oq_s (by decide +kernel)
set_option maxRecDepth 100000 in
theorem tk_ev7 : ev_p 1 5 tkE7 [.ref 3, .ref 1] [.long (tkw.getD 6 0), .int 6, .ref 8, .ref 8, .ref 3] (tkH (tkU 6)) = some (0, 0, [.ref 3, .ref 1], [.int 7, .ref 8, .ref 8, .ref 3], tkH (tkU 7)) := ev_oq_s (by decide +kernel)
set_option maxRecDepth 100000 in
theorem tk_ev8 : ev_p 1 5 tkE8 [.ref 3, .ref 1] [.long (tkw.getD 7 0), .int 7, .ref 8, .ref 8, .ref 3] (tkH (tkU 7)) = some (0, 0, [.ref 3, .ref 1], [.int 8, .ref 8, .ref 8, .ref 3], tkH (tkU 8)) := ev_oq_s (by decide +kernel)
set_option maxRecDepth 100000 in
theorem tk_ev9 : ev_p 1 5 tkE9 [.ref 3, .ref 1] [.long (tkw.getD 8 0), .int 8, .ref 8, .ref 8, .ref 3] (tkH (tkU 8)) = some (0, 0, [.ref 3, .ref 1], [.int 9, .ref 8, .ref 8, .ref 3], tkH (tkU 9)) := ev_oq_s (by decide +kernel)
set_option maxRecDepth 100000 in
theorem tk_ev10 : ev_p 1 5 tkE10 [.ref 3, .ref 1] [.long (tkw.getD 9 0), .int 9, .ref 8, .ref 8, .ref 3] (tkH (tkU 9)) = some (0, 0, [.ref 3, .ref 1], [.int 10, .ref 8, .ref 8, .ref 3], tkH (tkU 10)) := ev_oq_s (by decide +kernel)
set_option maxRecDepth 100000 in
theorem tk_ev11 : ev_p 1 5 tkE11 [.ref 3, .ref 1] [.long (tkw.getD 10 0), .int 10, .ref 8, .ref 8, .ref 3] (tkH (tkU 10)) = some (0, 0, [.ref 3, .ref 1], [.int 11, .ref 8, .ref 8, .ref 3], tkH (tkU 11)) := ev_oq_s (by decide +kernel)
set_option maxRecDepth 100000 in
theorem tk_ev12 : ev_p 1 5 tkE12 [.ref 3, .ref 1] [.long (tkw.getD 11 0), .int 11, .ref 8, .ref 8, .ref 3] (tkH (tkU 11)) = some (0, 0, [.ref 3, .ref 1], [.int 12, .ref 8, .ref 8, .ref 3], tkH (tkU 12)) := ev_oq_s (by decide +kernel)
set_option maxRecDepth 100000 in
theorem tk_ev13 : ev_p 1 5 tkE13 [.ref 3, .ref 1] [.long (tkw.getD 12 0), .int 12, .ref 8, .ref 8, .ref 3] (tkH (tkU 12)) = some (0, 0, [.ref 3, .ref 1], [.int 13, .ref 8, .ref 8, .ref 3], tkH (tkU 13)) := ev_oq_s (by decide +kernel)
set_option maxRecDepth 100000 in
theorem tk_ev14 : ev_p 1 5 tkE14 [.ref 3, .ref 1] [.long (tkw.getD 13 0), .int 13, .ref 8, .ref 8, .ref 3] (tkH (tkU 13)) = some (0, 0, [.ref 3, .ref 1], [.int 14, .ref 8, .ref 8, .ref 3], tkH (tkU 14)) := ev_oq_s (by decide +kernel)
set_option maxRecDepth 100000 in
theorem tk_ev15 : ev_p 1 5 tkE15 [.ref 3, .ref 1] [.long (tkw.getD 14 0), .int 14, .ref 8, .ref 8, .ref 3] (tkH (tkU 14)) = some (0, 0, [.ref 3, .ref 1], [.int 15, .ref 8, .ref 8, .ref 3], tkH (tkU 15)) := ev_oq_s (by decide +kernel)
set_option maxRecDepth 100000 in
theorem tk_ev16 : ev_p 1 5 tkE16 [.ref 3, .ref 1] [.long (tkw.getD 15 0), .int 15, .ref 8, .ref 8, .ref 3] (tkH (tkU 15)) = some (0, 0, [.ref 3, .ref 1], [.int 16, .ref 8, .ref 8, .ref 3], tkH (tkU 16)) := ev_oq_s (by decide +kernel)
set_option maxRecDepth 100000 in
theorem tk_ev17 : ev_p 1 5 tkE17 [.ref 3, .ref 1] [.long (tkw.getD 16 0), .int 16, .ref 8, .ref 8, .ref 3] (tkH (tkU 16)) = some (0, 0, [.ref 3, .ref 1], [.int 17, .ref 8, .ref 8, .ref 3], tkH (tkU 17)) := ev_oq_s (by decide +kernel)
set_option maxRecDepth 100000 in
theorem tk_ev18 : ev_p 1 5 tkE18 [.ref 3, .ref 1] [.long (tkw.getD 17 0), .int 17, .ref 8, .ref 8, .ref 3] (tkH (tkU 17)) = some (0, 0, [.ref 3, .ref 1], [.int 18, .ref 8, .ref 8, .ref 3], tkH (tkU 18)) := ev_oq_s (by decide +kernel)
set_option maxRecDepth 100000 in
theorem tk_ev19 : ev_p 1 5 tkE19 [.ref 3, .ref 1] [.long (tkw.getD 18 0), .int 18, .ref 8, .ref 8, .ref 3] (tkH (tkU 18)) = some (0, 0, [.ref 3, .ref 1], [.int 19, .ref 8, .ref 8, .ref 3], tkH (tkU 19)) := ev_oq_s (by decide +kernel)
set_option maxRecDepth 100000 in
theorem tk_ev20 : ev_p 1 5 tkE20 [.ref 3, .ref 1] [.long (tkw.getD 19 0), .int 19, .ref 8, .ref 8, .ref 3] (tkH (tkU 19)) = some (0, 0, [.ref 3, .ref 1], [], hp_2) := ev_oq_s (by decide +kernel)
set_option maxRecDepth 100000 in
theorem co_ev0 : ev_p 20 6 ((gc_cd 120).take 12) [.ref 0, gc_u] [] [.inr (10, gc_dfl 10)] = some (3, 2018, [.ref 0, gc_u], [.ref 1, .ref 3, .ref 3, .ref 0], hp_1) := ev_oq_s (by decide +kernel)
set_option maxRecDepth 100000 in
theorem co_ev1 : ev_b 400 6 120 ((gc_cd 120).dropWhile (fun e => e.1 != 27)) [.ref 0, gc_u] [.ref 3, .ref 0] hp_2 = some (58, 7441, none, hp_c) := ev_rq_s (by decide +kernel)
set_option maxRecDepth 100000 in
theorem re_ev : ev_b 700 6 172 ((gc_cd 172).dropWhile (fun e => e.1 != 0)) [.ref 67] [] (hp_c ++ [.inr (11, gc_dfl 11)]) = some (48, 198488, none, hp_c ++ hp_r) := ev_rq_s (by decide +kernel)
