/-! The checks, by program. -/
theorem gc_e247 : (gc_cd 247).all (gc_okE 247) = true := by decide +kernel
theorem gc_h247 : gc_chain (gc_cd 247) = true := by decide +kernel
theorem gc_M247 : gc_okM 247 := by
  have h := gc_inL [Cond.code (gc_mN 247) (gc_mB 247) (gc_mL 247) (gc_mR 247), Cond.initialized (gc_mN 247).cls, Cond.instanceMethod (gc_mN 247), Cond.selects (gc_mN 247).cls (gc_mN 247) (gc_mN 247)] [1980, 153, 1979, 113] (by decide +kernel) (by decide +kernel)
  exact ⟨h _ List.mem_cons_self, h _ (List.mem_cons_of_mem _ List.mem_cons_self), by decide +kernel, by decide +kernel, by decide +kernel, by decide +kernel, by decide +kernel, fun h => absurd h (by decide +kernel), fun _ => ⟨h _ (List.mem_cons_of_mem _ (List.mem_cons_of_mem _ List.mem_cons_self)), h _ (List.mem_cons_of_mem _ (List.mem_cons_of_mem _ (List.mem_cons_of_mem _ List.mem_cons_self))), _, rfl, by decide +kernel⟩, fun h => absurd h (by decide +kernel)⟩
theorem gc_e248 : (gc_cd 248).all (gc_okE 248) = true := by decide +kernel
theorem gc_h248 : gc_chain (gc_cd 248) = true := by decide +kernel
theorem gc_M248 : gc_okM 248 := by
  have h := gc_inL [Cond.code (gc_mN 248) (gc_mB 248) (gc_mL 248) (gc_mR 248), Cond.initialized (gc_mN 248).cls, Cond.instanceMethod (gc_mN 248), Cond.selects (gc_mN 248).cls (gc_mN 248) (gc_mN 248)] [1984, 153, 1983, 114] (by decide +kernel) (by decide +kernel)
  exact ⟨h _ List.mem_cons_self, h _ (List.mem_cons_of_mem _ List.mem_cons_self), by decide +kernel, by decide +kernel, by decide +kernel, by decide +kernel, by decide +kernel, fun h => absurd h (by decide +kernel), fun _ => ⟨h _ (List.mem_cons_of_mem _ (List.mem_cons_of_mem _ List.mem_cons_self)), h _ (List.mem_cons_of_mem _ (List.mem_cons_of_mem _ (List.mem_cons_of_mem _ List.mem_cons_self))), _, rfl, by decide +kernel⟩, fun h => absurd h (by decide +kernel)⟩
theorem gc_e249 : (gc_cd 249).all (gc_okE 249) = true := by decide +kernel
theorem gc_h249 : gc_chain (gc_cd 249) = true := by decide +kernel
theorem gc_M249 : gc_okM 249 := by
  have h := gc_inL [Cond.code (gc_mN 249) (gc_mB 249) (gc_mL 249) (gc_mR 249), Cond.initialized (gc_mN 249).cls, Cond.instanceMethod (gc_mN 249), Cond.selects (gc_mN 249).cls (gc_mN 249) (gc_mN 249)] [1992, 153, 1991, 115] (by decide +kernel) (by decide +kernel)
  exact ⟨h _ List.mem_cons_self, h _ (List.mem_cons_of_mem _ List.mem_cons_self), by decide +kernel, by decide +kernel, by decide +kernel, by decide +kernel, by decide +kernel, fun h => absurd h (by decide +kernel), fun _ => ⟨h _ (List.mem_cons_of_mem _ (List.mem_cons_of_mem _ List.mem_cons_self)), h _ (List.mem_cons_of_mem _ (List.mem_cons_of_mem _ (List.mem_cons_of_mem _ List.mem_cons_self))), _, rfl, by decide +kernel⟩, fun h => absurd h (by decide +kernel)⟩
theorem gc_e250 : (gc_cd 250).all (gc_okE 250) = true := by decide +kernel
theorem gc_h250 : gc_chain (gc_cd 250) = true := by decide +kernel
theorem gc_M250 : gc_okM 250 := by
  have h := gc_inL [Cond.code (gc_mN 250) (gc_mB 250) (gc_mL 250) (gc_mR 250), Cond.initialized (gc_mN 250).cls, Cond.instanceMethod (gc_mN 250), Cond.selects (gc_mN 250).cls (gc_mN 250) (gc_mN 250)] [2012, 153, 2011, 119] (by decide +kernel) (by decide +kernel)
  exact ⟨h _ List.mem_cons_self, h _ (List.mem_cons_of_mem _ List.mem_cons_self), by decide +kernel, by decide +kernel, by decide +kernel, by decide +kernel, by decide +kernel, fun h => absurd h (by decide +kernel), fun _ => ⟨h _ (List.mem_cons_of_mem _ (List.mem_cons_of_mem _ List.mem_cons_self)), h _ (List.mem_cons_of_mem _ (List.mem_cons_of_mem _ (List.mem_cons_of_mem _ List.mem_cons_self))), _, rfl, by decide +kernel⟩, fun h => absurd h (by decide +kernel)⟩
theorem gc_e251 : (gc_cd 251).all (gc_okE 251) = true := by decide +kernel
theorem gc_h251 : gc_chain (gc_cd 251) = true := by decide +kernel
theorem gc_M251 : gc_okM 251 := by
  have h := gc_inL [Cond.code (gc_mN 251) (gc_mB 251) (gc_mL 251) (gc_mR 251), Cond.initialized (gc_mN 251).cls, Cond.instanceMethod (gc_mN 251), Cond.selects (gc_mN 251).cls (gc_mN 251) (gc_mN 251)] [1968, 153, 1966, 1967] (by decide +kernel) (by decide +kernel)
  exact ⟨h _ List.mem_cons_self, h _ (List.mem_cons_of_mem _ List.mem_cons_self), by decide +kernel, by decide +kernel, by decide +kernel, by decide +kernel, by decide +kernel, fun h => absurd h (by decide +kernel), fun _ => ⟨h _ (List.mem_cons_of_mem _ (List.mem_cons_of_mem _ List.mem_cons_self)), h _ (List.mem_cons_of_mem _ (List.mem_cons_of_mem _ (List.mem_cons_of_mem _ List.mem_cons_self))), _, rfl, by decide +kernel⟩, fun h => absurd h (by decide +kernel)⟩
theorem gc_e252 : (gc_cd 252).all (gc_okE 252) = true := by decide +kernel
theorem gc_h252 : gc_chain (gc_cd 252) = true := by decide +kernel
theorem gc_M252 : gc_okM 252 := by
  have h := gc_inL [Cond.code (gc_mN 252) (gc_mB 252) (gc_mL 252) (gc_mR 252), Cond.initialized (gc_mN 252).cls, Cond.instanceMethod (gc_mN 252), Cond.selects (gc_mN 252).cls (gc_mN 252) (gc_mN 252)] [1988, 153, 1986, 1987] (by decide +kernel) (by decide +kernel)
  exact ⟨h _ List.mem_cons_self, h _ (List.mem_cons_of_mem _ List.mem_cons_self), by decide +kernel, by decide +kernel, by decide +kernel, by decide +kernel, by decide +kernel, fun h => absurd h (by decide +kernel), fun _ => ⟨h _ (List.mem_cons_of_mem _ (List.mem_cons_of_mem _ List.mem_cons_self)), h _ (List.mem_cons_of_mem _ (List.mem_cons_of_mem _ (List.mem_cons_of_mem _ List.mem_cons_self))), _, rfl, by decide +kernel⟩, fun h => absurd h (by decide +kernel)⟩
theorem gc_e253 : (gc_cd 253).all (gc_okE 253) = true := by decide +kernel
theorem gc_h253 : gc_chain (gc_cd 253) = true := by decide +kernel
theorem gc_M253 : gc_okM 253 := by
  have h := gc_inL [Cond.code (gc_mN 253) (gc_mB 253) (gc_mL 253) (gc_mR 253), Cond.initialized (gc_mN 253).cls, Cond.instanceMethod (gc_mN 253), Cond.selects (gc_mN 253).cls (gc_mN 253) (gc_mN 253)] [2004, 153, 2003, 117] (by decide +kernel) (by decide +kernel)
  exact ⟨h _ List.mem_cons_self, h _ (List.mem_cons_of_mem _ List.mem_cons_self), by decide +kernel, by decide +kernel, by decide +kernel, by decide +kernel, by decide +kernel, fun h => absurd h (by decide +kernel), fun _ => ⟨h _ (List.mem_cons_of_mem _ (List.mem_cons_of_mem _ List.mem_cons_self)), h _ (List.mem_cons_of_mem _ (List.mem_cons_of_mem _ (List.mem_cons_of_mem _ List.mem_cons_self))), _, rfl, by decide +kernel⟩, fun h => absurd h (by decide +kernel)⟩
theorem gc_e254 : (gc_cd 254).all (gc_okE 254) = true := by decide +kernel
theorem gc_h254 : gc_chain (gc_cd 254) = true := by decide +kernel
theorem gc_M254 : gc_okM 254 := by
  have h := gc_inL [Cond.code (gc_mN 254) (gc_mB 254) (gc_mL 254) (gc_mR 254), Cond.initialized (gc_mN 254).cls, Cond.instanceMethod (gc_mN 254), Cond.selects (gc_mN 254).cls (gc_mN 254) (gc_mN 254)] [2008, 153, 2007, 118] (by decide +kernel) (by decide +kernel)
  exact ⟨h _ List.mem_cons_self, h _ (List.mem_cons_of_mem _ List.mem_cons_self), by decide +kernel, by decide +kernel, by decide +kernel, by decide +kernel, by decide +kernel, fun h => absurd h (by decide +kernel), fun _ => ⟨h _ (List.mem_cons_of_mem _ (List.mem_cons_of_mem _ List.mem_cons_self)), h _ (List.mem_cons_of_mem _ (List.mem_cons_of_mem _ (List.mem_cons_of_mem _ List.mem_cons_self))), _, rfl, by decide +kernel⟩, fun h => absurd h (by decide +kernel)⟩
theorem gc_e255 : (gc_cd 255).all (gc_okE 255) = true := by decide +kernel
theorem gc_h255 : gc_chain (gc_cd 255) = true := by decide +kernel
theorem gc_M255 : gc_okM 255 := by
  have h := gc_inL [Cond.code (gc_mN 255) (gc_mB 255) (gc_mL 255) (gc_mR 255), Cond.initialized (gc_mN 255).cls, Cond.instanceMethod (gc_mN 255), Cond.selects (gc_mN 255).cls (gc_mN 255) (gc_mN 255)] [2000, 153, 1999, 116] (by decide +kernel) (by decide +kernel)
  exact ⟨h _ List.mem_cons_self, h _ (List.mem_cons_of_mem _ List.mem_cons_self), by decide +kernel, by decide +kernel, by decide +kernel, by decide +kernel, by decide +kernel, fun h => absurd h (by decide +kernel), fun _ => ⟨h _ (List.mem_cons_of_mem _ (List.mem_cons_of_mem _ List.mem_cons_self)), h _ (List.mem_cons_of_mem _ (List.mem_cons_of_mem _ (List.mem_cons_of_mem _ List.mem_cons_self))), _, rfl, by decide +kernel⟩, fun h => absurd h (by decide +kernel)⟩
theorem gc_e256 : (gc_cd 256).all (gc_okE 256) = true := by decide +kernel
theorem gc_h256 : gc_chain (gc_cd 256) = true := by decide +kernel
theorem gc_M256 : gc_okM 256 := by
  have h := gc_inL [Cond.code (gc_mN 256) (gc_mB 256) (gc_mL 256) (gc_mR 256), Cond.initialized (gc_mN 256).cls, Cond.instanceMethod (gc_mN 256), Cond.selects (gc_mN 256).cls (gc_mN 256) (gc_mN 256)] [1996, 153, 1994, 1995] (by decide +kernel) (by decide +kernel)
  exact ⟨h _ List.mem_cons_self, h _ (List.mem_cons_of_mem _ List.mem_cons_self), by decide +kernel, by decide +kernel, by decide +kernel, by decide +kernel, by decide +kernel, fun h => absurd h (by decide +kernel), fun _ => ⟨h _ (List.mem_cons_of_mem _ (List.mem_cons_of_mem _ List.mem_cons_self)), h _ (List.mem_cons_of_mem _ (List.mem_cons_of_mem _ (List.mem_cons_of_mem _ List.mem_cons_self))), _, rfl, by decide +kernel⟩, fun h => absurd h (by decide +kernel)⟩
