/-! The checks, by program. -/
theorem gc_e238 : (gc_cd 238).all (gc_okE 238) = true := by decide +kernel
theorem gc_h238 : gc_chain (gc_cd 238) = true := by decide +kernel
theorem gc_M238 : gc_okM 238 := by
  have h := gc_inL [Cond.code (gc_mN 238) (gc_mB 238) (gc_mL 238) (gc_mR 238), Cond.initialized (gc_mN 238).cls, Cond.instanceMethod (gc_mN 238), Cond.selects (gc_mN 238).cls (gc_mN 238) (gc_mN 238)] [1941, 153, 1940, 107] (by decide +kernel) (by decide +kernel)
  exact ⟨h _ List.mem_cons_self, h _ (List.mem_cons_of_mem _ List.mem_cons_self), by decide +kernel, by decide +kernel, by decide +kernel, by decide +kernel, by decide +kernel, fun h => absurd h (by decide +kernel), fun _ => ⟨h _ (List.mem_cons_of_mem _ (List.mem_cons_of_mem _ List.mem_cons_self)), h _ (List.mem_cons_of_mem _ (List.mem_cons_of_mem _ (List.mem_cons_of_mem _ List.mem_cons_self))), _, rfl, by decide +kernel⟩, fun h => absurd h (by decide +kernel)⟩
theorem gc_e239 : (gc_cd 239).all (gc_okE 239) = true := by decide +kernel
theorem gc_h239 : gc_chain (gc_cd 239) = true := by decide +kernel
theorem gc_M239 : gc_okM 239 := by
  have h := gc_inL [Cond.code (gc_mN 239) (gc_mB 239) (gc_mL 239) (gc_mR 239), Cond.initialized (gc_mN 239).cls, Cond.instanceMethod (gc_mN 239), Cond.selects (gc_mN 239).cls (gc_mN 239) (gc_mN 239)] [1945, 153, 1944, 108] (by decide +kernel) (by decide +kernel)
  exact ⟨h _ List.mem_cons_self, h _ (List.mem_cons_of_mem _ List.mem_cons_self), by decide +kernel, by decide +kernel, by decide +kernel, by decide +kernel, by decide +kernel, fun h => absurd h (by decide +kernel), fun _ => ⟨h _ (List.mem_cons_of_mem _ (List.mem_cons_of_mem _ List.mem_cons_self)), h _ (List.mem_cons_of_mem _ (List.mem_cons_of_mem _ (List.mem_cons_of_mem _ List.mem_cons_self))), _, rfl, by decide +kernel⟩, fun h => absurd h (by decide +kernel)⟩
theorem gc_e240 : (gc_cd 240).all (gc_okE 240) = true := by decide +kernel
theorem gc_h240 : gc_chain (gc_cd 240) = true := by decide +kernel
theorem gc_M240 : gc_okM 240 := by
  have h := gc_inL [Cond.code (gc_mN 240) (gc_mB 240) (gc_mL 240) (gc_mR 240), Cond.initialized (gc_mN 240).cls, Cond.instanceMethod (gc_mN 240), Cond.selects (gc_mN 240).cls (gc_mN 240) (gc_mN 240)] [1952, 153, 1951, 109] (by decide +kernel) (by decide +kernel)
  exact ⟨h _ List.mem_cons_self, h _ (List.mem_cons_of_mem _ List.mem_cons_self), by decide +kernel, by decide +kernel, by decide +kernel, by decide +kernel, by decide +kernel, fun h => absurd h (by decide +kernel), fun _ => ⟨h _ (List.mem_cons_of_mem _ (List.mem_cons_of_mem _ List.mem_cons_self)), h _ (List.mem_cons_of_mem _ (List.mem_cons_of_mem _ (List.mem_cons_of_mem _ List.mem_cons_self))), _, rfl, by decide +kernel⟩, fun h => absurd h (by decide +kernel)⟩
theorem gc_e241 : (gc_cd 241).all (gc_okE 241) = true := by decide +kernel
theorem gc_h241 : gc_chain (gc_cd 241) = true := by decide +kernel
theorem gc_M241 : gc_okM 241 := by
  have h := gc_inL [Cond.code (gc_mN 241) (gc_mB 241) (gc_mL 241) (gc_mR 241), Cond.initialized (gc_mN 241).cls, Cond.instanceMethod (gc_mN 241), Cond.selects (gc_mN 241).cls (gc_mN 241) (gc_mN 241)] [1899, 153, 1897, 1898] (by decide +kernel) (by decide +kernel)
  exact ⟨h _ List.mem_cons_self, h _ (List.mem_cons_of_mem _ List.mem_cons_self), by decide +kernel, by decide +kernel, by decide +kernel, by decide +kernel, by decide +kernel, fun h => absurd h (by decide +kernel), fun _ => ⟨h _ (List.mem_cons_of_mem _ (List.mem_cons_of_mem _ List.mem_cons_self)), h _ (List.mem_cons_of_mem _ (List.mem_cons_of_mem _ (List.mem_cons_of_mem _ List.mem_cons_self))), _, rfl, by decide +kernel⟩, fun h => absurd h (by decide +kernel)⟩
theorem gc_e242 : (gc_cd 242).all (gc_okE 242) = true := by decide +kernel
theorem gc_h242 : gc_chain (gc_cd 242) = true := by decide +kernel
theorem gc_M242 : gc_okM 242 := by
  have h := gc_inL [Cond.code (gc_mN 242) (gc_mB 242) (gc_mL 242) (gc_mR 242), Cond.initialized (gc_mN 242).cls, Cond.instanceMethod (gc_mN 242), Cond.selects (gc_mN 242).cls (gc_mN 242) (gc_mN 242)] [1960, 153, 1959, 110] (by decide +kernel) (by decide +kernel)
  exact ⟨h _ List.mem_cons_self, h _ (List.mem_cons_of_mem _ List.mem_cons_self), by decide +kernel, by decide +kernel, by decide +kernel, by decide +kernel, by decide +kernel, fun h => absurd h (by decide +kernel), fun _ => ⟨h _ (List.mem_cons_of_mem _ (List.mem_cons_of_mem _ List.mem_cons_self)), h _ (List.mem_cons_of_mem _ (List.mem_cons_of_mem _ (List.mem_cons_of_mem _ List.mem_cons_self))), _, rfl, by decide +kernel⟩, fun h => absurd h (by decide +kernel)⟩
theorem gc_e243 : (gc_cd 243).all (gc_okE 243) = true := by decide +kernel
theorem gc_h243 : gc_chain (gc_cd 243) = true := by decide +kernel
theorem gc_M243 : gc_okM 243 := by
  have h := gc_inL [Cond.code (gc_mN 243) (gc_mB 243) (gc_mL 243) (gc_mR 243), Cond.initialized (gc_mN 243).cls, Cond.instanceMethod (gc_mN 243), Cond.selects (gc_mN 243).cls (gc_mN 243) (gc_mN 243)] [1956, 153, 1954, 1955] (by decide +kernel) (by decide +kernel)
  exact ⟨h _ List.mem_cons_self, h _ (List.mem_cons_of_mem _ List.mem_cons_self), by decide +kernel, by decide +kernel, by decide +kernel, by decide +kernel, by decide +kernel, fun h => absurd h (by decide +kernel), fun _ => ⟨h _ (List.mem_cons_of_mem _ (List.mem_cons_of_mem _ List.mem_cons_self)), h _ (List.mem_cons_of_mem _ (List.mem_cons_of_mem _ (List.mem_cons_of_mem _ List.mem_cons_self))), _, rfl, by decide +kernel⟩, fun h => absurd h (by decide +kernel)⟩
theorem gc_e244 : (gc_cd 244).all (gc_okE 244) = true := by decide +kernel
theorem gc_h244 : gc_chain (gc_cd 244) = true := by decide +kernel
theorem gc_M244 : gc_okM 244 := by
  have h := gc_inL [Cond.code (gc_mN 244) (gc_mB 244) (gc_mL 244) (gc_mR 244), Cond.initialized (gc_mN 244).cls, Cond.instanceMethod (gc_mN 244), Cond.selects (gc_mN 244).cls (gc_mN 244) (gc_mN 244)] [1964, 153, 1962, 1963] (by decide +kernel) (by decide +kernel)
  exact ⟨h _ List.mem_cons_self, h _ (List.mem_cons_of_mem _ List.mem_cons_self), by decide +kernel, by decide +kernel, by decide +kernel, by decide +kernel, by decide +kernel, fun h => absurd h (by decide +kernel), fun _ => ⟨h _ (List.mem_cons_of_mem _ (List.mem_cons_of_mem _ List.mem_cons_self)), h _ (List.mem_cons_of_mem _ (List.mem_cons_of_mem _ (List.mem_cons_of_mem _ List.mem_cons_self))), _, rfl, by decide +kernel⟩, fun h => absurd h (by decide +kernel)⟩
theorem gc_e245 : (gc_cd 245).all (gc_okE 245) = true := by decide +kernel
theorem gc_h245 : gc_chain (gc_cd 245) = true := by decide +kernel
theorem gc_M245 : gc_okM 245 := by
  have h := gc_inL [Cond.code (gc_mN 245) (gc_mB 245) (gc_mL 245) (gc_mR 245), Cond.initialized (gc_mN 245).cls, Cond.instanceMethod (gc_mN 245), Cond.selects (gc_mN 245).cls (gc_mN 245) (gc_mN 245)] [1976, 153, 1975, 112] (by decide +kernel) (by decide +kernel)
  exact ⟨h _ List.mem_cons_self, h _ (List.mem_cons_of_mem _ List.mem_cons_self), by decide +kernel, by decide +kernel, by decide +kernel, by decide +kernel, by decide +kernel, fun h => absurd h (by decide +kernel), fun _ => ⟨h _ (List.mem_cons_of_mem _ (List.mem_cons_of_mem _ List.mem_cons_self)), h _ (List.mem_cons_of_mem _ (List.mem_cons_of_mem _ (List.mem_cons_of_mem _ List.mem_cons_self))), _, rfl, by decide +kernel⟩, fun h => absurd h (by decide +kernel)⟩
theorem gc_e246 : (gc_cd 246).all (gc_okE 246) = true := by decide +kernel
theorem gc_h246 : gc_chain (gc_cd 246) = true := by decide +kernel
theorem gc_M246 : gc_okM 246 := by
  have h := gc_inL [Cond.code (gc_mN 246) (gc_mB 246) (gc_mL 246) (gc_mR 246), Cond.initialized (gc_mN 246).cls, Cond.instanceMethod (gc_mN 246), Cond.selects (gc_mN 246).cls (gc_mN 246) (gc_mN 246)] [1972, 153, 1971, 111] (by decide +kernel) (by decide +kernel)
  exact ⟨h _ List.mem_cons_self, h _ (List.mem_cons_of_mem _ List.mem_cons_self), by decide +kernel, by decide +kernel, by decide +kernel, by decide +kernel, by decide +kernel, fun h => absurd h (by decide +kernel), fun _ => ⟨h _ (List.mem_cons_of_mem _ (List.mem_cons_of_mem _ List.mem_cons_self)), h _ (List.mem_cons_of_mem _ (List.mem_cons_of_mem _ (List.mem_cons_of_mem _ List.mem_cons_self))), _, rfl, by decide +kernel⟩, fun h => absurd h (by decide +kernel)⟩
