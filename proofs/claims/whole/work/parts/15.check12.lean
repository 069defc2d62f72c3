/-! The checks, by program. -/
theorem gc_e265 : (gc_cd 265).all (gc_okE 265) = true := by decide +kernel
theorem gc_h265 : gc_chain (gc_cd 265) = true := by decide +kernel
theorem gc_M265 : gc_okM 265 := by
  have h := gc_inL [Cond.code (gc_mN 265) (gc_mB 265) (gc_mL 265) (gc_mR 265), Cond.initialized (gc_mN 265).cls, Cond.instanceMethod (gc_mN 265), Cond.selects (gc_mN 265).cls (gc_mN 265) (gc_mN 265)] [2047, 153, 2046, 125] (by decide +kernel) (by decide +kernel)
  exact ⟨h _ List.mem_cons_self, h _ (List.mem_cons_of_mem _ List.mem_cons_self), by decide +kernel, by decide +kernel, by decide +kernel, by decide +kernel, by decide +kernel, fun h => absurd h (by decide +kernel), fun _ => ⟨h _ (List.mem_cons_of_mem _ (List.mem_cons_of_mem _ List.mem_cons_self)), h _ (List.mem_cons_of_mem _ (List.mem_cons_of_mem _ (List.mem_cons_of_mem _ List.mem_cons_self))), _, rfl, by decide +kernel⟩, fun h => absurd h (by decide +kernel)⟩
theorem gc_e266 : (gc_cd 266).all (gc_okE 266) = true := by decide +kernel
theorem gc_h266 : gc_chain (gc_cd 266) = true := by decide +kernel
theorem gc_M266 : gc_okM 266 := by
  have h := gc_inL [Cond.code (gc_mN 266) (gc_mB 266) (gc_mL 266) (gc_mR 266), Cond.initialized (gc_mN 266).cls, Cond.instanceMethod (gc_mN 266), Cond.selects (gc_mN 266).cls (gc_mN 266) (gc_mN 266)] [2051, 153, 2050, 126] (by decide +kernel) (by decide +kernel)
  exact ⟨h _ List.mem_cons_self, h _ (List.mem_cons_of_mem _ List.mem_cons_self), by decide +kernel, by decide +kernel, by decide +kernel, by decide +kernel, by decide +kernel, fun h => absurd h (by decide +kernel), fun _ => ⟨h _ (List.mem_cons_of_mem _ (List.mem_cons_of_mem _ List.mem_cons_self)), h _ (List.mem_cons_of_mem _ (List.mem_cons_of_mem _ (List.mem_cons_of_mem _ List.mem_cons_self))), _, rfl, by decide +kernel⟩, fun h => absurd h (by decide +kernel)⟩
theorem gc_e267 : (gc_cd 267).all (gc_okE 267) = true := by decide +kernel
theorem gc_h267 : gc_chain (gc_cd 267) = true := by decide +kernel
theorem gc_M267 : gc_okM 267 := by
  have h := gc_inL [Cond.code (gc_mN 267) (gc_mB 267) (gc_mL 267) (gc_mR 267), Cond.initialized (gc_mN 267).cls, Cond.instanceMethod (gc_mN 267), Cond.selects (gc_mN 267).cls (gc_mN 267) (gc_mN 267)] [2055, 153, 2054, 127] (by decide +kernel) (by decide +kernel)
  exact ⟨h _ List.mem_cons_self, h _ (List.mem_cons_of_mem _ List.mem_cons_self), by decide +kernel, by decide +kernel, by decide +kernel, by decide +kernel, by decide +kernel, fun h => absurd h (by decide +kernel), fun _ => ⟨h _ (List.mem_cons_of_mem _ (List.mem_cons_of_mem _ List.mem_cons_self)), h _ (List.mem_cons_of_mem _ (List.mem_cons_of_mem _ (List.mem_cons_of_mem _ List.mem_cons_self))), _, rfl, by decide +kernel⟩, fun h => absurd h (by decide +kernel)⟩
theorem gc_e268 : (gc_cd 268).all (gc_okE 268) = true := by decide +kernel
theorem gc_h268 : gc_chain (gc_cd 268) = true := by decide +kernel
theorem gc_M268 : gc_okM 268 := by
  have h := gc_inL [Cond.code (gc_mN 268) (gc_mB 268) (gc_mL 268) (gc_mR 268), Cond.initialized (gc_mN 268).cls, Cond.instanceMethod (gc_mN 268), Cond.selects (gc_mN 268).cls (gc_mN 268) (gc_mN 268)] [2059, 153, 2057, 2058] (by decide +kernel) (by decide +kernel)
  exact ⟨h _ List.mem_cons_self, h _ (List.mem_cons_of_mem _ List.mem_cons_self), by decide +kernel, by decide +kernel, by decide +kernel, by decide +kernel, by decide +kernel, fun h => absurd h (by decide +kernel), fun _ => ⟨h _ (List.mem_cons_of_mem _ (List.mem_cons_of_mem _ List.mem_cons_self)), h _ (List.mem_cons_of_mem _ (List.mem_cons_of_mem _ (List.mem_cons_of_mem _ List.mem_cons_self))), _, rfl, by decide +kernel⟩, fun h => absurd h (by decide +kernel)⟩
theorem gc_e269 : (gc_cd 269).all (gc_okE 269) = true := by decide +kernel
theorem gc_h269 : gc_chain (gc_cd 269) = true := by decide +kernel
theorem gc_M269 : gc_okM 269 := by
  have h := gc_inL [Cond.code (gc_mN 269) (gc_mB 269) (gc_mL 269) (gc_mR 269), Cond.initialized (gc_mN 269).cls, Cond.instanceMethod (gc_mN 269), Cond.selects (gc_mN 269).cls (gc_mN 269) (gc_mN 269)] [2071, 153, 2070, 129] (by decide +kernel) (by decide +kernel)
  exact ⟨h _ List.mem_cons_self, h _ (List.mem_cons_of_mem _ List.mem_cons_self), by decide +kernel, by decide +kernel, by decide +kernel, by decide +kernel, by decide +kernel, fun h => absurd h (by decide +kernel), fun _ => ⟨h _ (List.mem_cons_of_mem _ (List.mem_cons_of_mem _ List.mem_cons_self)), h _ (List.mem_cons_of_mem _ (List.mem_cons_of_mem _ (List.mem_cons_of_mem _ List.mem_cons_self))), _, rfl, by decide +kernel⟩, fun h => absurd h (by decide +kernel)⟩
theorem gc_e270 : (gc_cd 270).all (gc_okE 270) = true := by decide +kernel
theorem gc_h270 : gc_chain (gc_cd 270) = true := by decide +kernel
theorem gc_M270 : gc_okM 270 := by
  have h := gc_inL [Cond.code (gc_mN 270) (gc_mB 270) (gc_mL 270) (gc_mR 270), Cond.initialized (gc_mN 270).cls, Cond.instanceMethod (gc_mN 270), Cond.selects (gc_mN 270).cls (gc_mN 270) (gc_mN 270)] [2067, 153, 2066, 128] (by decide +kernel) (by decide +kernel)
  exact ⟨h _ List.mem_cons_self, h _ (List.mem_cons_of_mem _ List.mem_cons_self), by decide +kernel, by decide +kernel, by decide +kernel, by decide +kernel, by decide +kernel, fun h => absurd h (by decide +kernel), fun _ => ⟨h _ (List.mem_cons_of_mem _ (List.mem_cons_of_mem _ List.mem_cons_self)), h _ (List.mem_cons_of_mem _ (List.mem_cons_of_mem _ (List.mem_cons_of_mem _ List.mem_cons_self))), _, rfl, by decide +kernel⟩, fun h => absurd h (by decide +kernel)⟩
theorem gc_e271 : (gc_cd 271).all (gc_okE 271) = true := by decide +kernel
theorem gc_h271 : gc_chain (gc_cd 271) = true := by decide +kernel
theorem gc_M271 : gc_okM 271 := by
  have h := gc_inL [Cond.code (gc_mN 271) (gc_mB 271) (gc_mL 271) (gc_mR 271), Cond.initialized (gc_mN 271).cls, Cond.instanceMethod (gc_mN 271), Cond.selects (gc_mN 271).cls (gc_mN 271) (gc_mN 271)] [2079, 153, 2078, 130] (by decide +kernel) (by decide +kernel)
  exact ⟨h _ List.mem_cons_self, h _ (List.mem_cons_of_mem _ List.mem_cons_self), by decide +kernel, by decide +kernel, by decide +kernel, by decide +kernel, by decide +kernel, fun h => absurd h (by decide +kernel), fun _ => ⟨h _ (List.mem_cons_of_mem _ (List.mem_cons_of_mem _ List.mem_cons_self)), h _ (List.mem_cons_of_mem _ (List.mem_cons_of_mem _ (List.mem_cons_of_mem _ List.mem_cons_self))), _, rfl, by decide +kernel⟩, fun h => absurd h (by decide +kernel)⟩
theorem gc_e272 : (gc_cd 272).all (gc_okE 272) = true := by decide +kernel
theorem gc_h272 : gc_chain (gc_cd 272) = true := by decide +kernel
theorem gc_M272 : gc_okM 272 := by
  have h := gc_inL [Cond.code (gc_mN 272) (gc_mB 272) (gc_mL 272) (gc_mR 272), Cond.initialized (gc_mN 272).cls, Cond.instanceMethod (gc_mN 272), Cond.selects (gc_mN 272).cls (gc_mN 272) (gc_mN 272)] [2063, 153, 2061, 2062] (by decide +kernel) (by decide +kernel)
  exact ⟨h _ List.mem_cons_self, h _ (List.mem_cons_of_mem _ List.mem_cons_self), by decide +kernel, by decide +kernel, by decide +kernel, by decide +kernel, by decide +kernel, fun h => absurd h (by decide +kernel), fun _ => ⟨h _ (List.mem_cons_of_mem _ (List.mem_cons_of_mem _ List.mem_cons_self)), h _ (List.mem_cons_of_mem _ (List.mem_cons_of_mem _ (List.mem_cons_of_mem _ List.mem_cons_self))), _, rfl, by decide +kernel⟩, fun h => absurd h (by decide +kernel)⟩
theorem gc_e273 : (gc_cd 273).all (gc_okE 273) = true := by decide +kernel
theorem gc_h273 : gc_chain (gc_cd 273) = true := by decide +kernel
theorem gc_M273 : gc_okM 273 := by
  have h := gc_inL [Cond.code (gc_mN 273) (gc_mB 273) (gc_mL 273) (gc_mR 273), Cond.initialized (gc_mN 273).cls, Cond.instanceMethod (gc_mN 273), Cond.selects (gc_mN 273).cls (gc_mN 273) (gc_mN 273)] [2075, 153, 2073, 2074] (by decide +kernel) (by decide +kernel)
  exact ⟨h _ List.mem_cons_self, h _ (List.mem_cons_of_mem _ List.mem_cons_self), by decide +kernel, by decide +kernel, by decide +kernel, by decide +kernel, by decide +kernel, fun h => absurd h (by decide +kernel), fun _ => ⟨h _ (List.mem_cons_of_mem _ (List.mem_cons_of_mem _ List.mem_cons_self)), h _ (List.mem_cons_of_mem _ (List.mem_cons_of_mem _ (List.mem_cons_of_mem _ List.mem_cons_self))), _, rfl, by decide +kernel⟩, fun h => absurd h (by decide +kernel)⟩
theorem gc_e274 : (gc_cd 274).all (gc_okE 274) = true := by decide +kernel
theorem gc_h274 : gc_chain (gc_cd 274) = true := by decide +kernel
theorem gc_M274 : gc_okM 274 := by
  have h := gc_inL [Cond.code (gc_mN 274) (gc_mB 274) (gc_mL 274) (gc_mR 274), Cond.initialized (gc_mN 274).cls, Cond.instanceMethod (gc_mN 274), Cond.selects (gc_mN 274).cls (gc_mN 274) (gc_mN 274)] [2099, 153, 2098, 134] (by decide +kernel) (by decide +kernel)
  exact ⟨h _ List.mem_cons_self, h _ (List.mem_cons_of_mem _ List.mem_cons_self), by decide +kernel, by decide +kernel, by decide +kernel, by decide +kernel, by decide +kernel, fun h => absurd h (by decide +kernel), fun _ => ⟨h _ (List.mem_cons_of_mem _ (List.mem_cons_of_mem _ List.mem_cons_self)), h _ (List.mem_cons_of_mem _ (List.mem_cons_of_mem _ (List.mem_cons_of_mem _ List.mem_cons_self))), _, rfl, by decide +kernel⟩, fun h => absurd h (by decide +kernel)⟩
theorem gc_e275 : (gc_cd 275).all (gc_okE 275) = true := by decide +kernel
theorem gc_h275 : gc_chain (gc_cd 275) = true := by decide +kernel
theorem gc_M275 : gc_okM 275 := by
  have h := gc_inL [Cond.code (gc_mN 275) (gc_mB 275) (gc_mL 275) (gc_mR 275), Cond.initialized (gc_mN 275).cls, Cond.instanceMethod (gc_mN 275), Cond.selects (gc_mN 275).cls (gc_mN 275) (gc_mN 275)] [2095, 153, 2094, 133] (by decide +kernel) (by decide +kernel)
  exact ⟨h _ List.mem_cons_self, h _ (List.mem_cons_of_mem _ List.mem_cons_self), by decide +kernel, by decide +kernel, by decide +kernel, by decide +kernel, by decide +kernel, fun h => absurd h (by decide +kernel), fun _ => ⟨h _ (List.mem_cons_of_mem _ (List.mem_cons_of_mem _ List.mem_cons_self)), h _ (List.mem_cons_of_mem _ (List.mem_cons_of_mem _ (List.mem_cons_of_mem _ List.mem_cons_self))), _, rfl, by decide +kernel⟩, fun h => absurd h (by decide +kernel)⟩
theorem gc_e276 : (gc_cd 276).all (gc_okE 276) = true := by decide +kernel
theorem gc_h276 : gc_chain (gc_cd 276) = true := by decide +kernel
theorem gc_M276 : gc_okM 276 := by
  have h := gc_inL [Cond.code (gc_mN 276) (gc_mB 276) (gc_mL 276) (gc_mR 276), Cond.initialized (gc_mN 276).cls, Cond.instanceMethod (gc_mN 276), Cond.selects (gc_mN 276).cls (gc_mN 276) (gc_mN 276)] [2091, 153, 2090, 132] (by decide +kernel) (by decide +kernel)
  exact ⟨h _ List.mem_cons_self, h _ (List.mem_cons_of_mem _ List.mem_cons_self), by decide +kernel, by decide +kernel, by decide +kernel, by decide +kernel, by decide +kernel, fun h => absurd h (by decide +kernel), fun _ => ⟨h _ (List.mem_cons_of_mem _ (List.mem_cons_of_mem _ List.mem_cons_self)), h _ (List.mem_cons_of_mem _ (List.mem_cons_of_mem _ (List.mem_cons_of_mem _ List.mem_cons_self))), _, rfl, by decide +kernel⟩, fun h => absurd h (by decide +kernel)⟩
theorem gc_e277 : (gc_cd 277).all (gc_okE 277) = true := by decide +kernel
theorem gc_h277 : gc_chain (gc_cd 277) = true := by decide +kernel
theorem gc_M277 : gc_okM 277 := by
  have h := gc_inL [Cond.code (gc_mN 277) (gc_mB 277) (gc_mL 277) (gc_mR 277), Cond.initialized (gc_mN 277).cls, Cond.instanceMethod (gc_mN 277), Cond.selects (gc_mN 277).cls (gc_mN 277) (gc_mN 277)] [2103, 153, 2102, 135] (by decide +kernel) (by decide +kernel)
  exact ⟨h _ List.mem_cons_self, h _ (List.mem_cons_of_mem _ List.mem_cons_self), by decide +kernel, by decide +kernel, by decide +kernel, by decide +kernel, by decide +kernel, fun h => absurd h (by decide +kernel), fun _ => ⟨h _ (List.mem_cons_of_mem _ (List.mem_cons_of_mem _ List.mem_cons_self)), h _ (List.mem_cons_of_mem _ (List.mem_cons_of_mem _ (List.mem_cons_of_mem _ List.mem_cons_self))), _, rfl, by decide +kernel⟩, fun h => absurd h (by decide +kernel)⟩
theorem gc_e278 : (gc_cd 278).all (gc_okE 278) = true := by decide +kernel
theorem gc_h278 : gc_chain (gc_cd 278) = true := by decide +kernel
theorem gc_M278 : gc_okM 278 := by
  have h := gc_inL [Cond.code (gc_mN 278) (gc_mB 278) (gc_mL 278) (gc_mR 278), Cond.initialized (gc_mN 278).cls, Cond.instanceMethod (gc_mN 278), Cond.selects (gc_mN 278).cls (gc_mN 278) (gc_mN 278)] [2087, 153, 2086, 131] (by decide +kernel) (by decide +kernel)
  exact ⟨h _ List.mem_cons_self, h _ (List.mem_cons_of_mem _ List.mem_cons_self), by decide +kernel, by decide +kernel, by decide +kernel, by decide +kernel, by decide +kernel, fun h => absurd h (by decide +kernel), fun _ => ⟨h _ (List.mem_cons_of_mem _ (List.mem_cons_of_mem _ List.mem_cons_self)), h _ (List.mem_cons_of_mem _ (List.mem_cons_of_mem _ (List.mem_cons_of_mem _ List.mem_cons_self))), _, rfl, by decide +kernel⟩, fun h => absurd h (by decide +kernel)⟩
theorem gc_e279 : (gc_cd 279).all (gc_okE 279) = true := by decide +kernel
theorem gc_h279 : gc_chain (gc_cd 279) = true := by decide +kernel
theorem gc_M279 : gc_okM 279 := by
  have h := gc_inL [Cond.code (gc_mN 279) (gc_mB 279) (gc_mL 279) (gc_mR 279), Cond.initialized (gc_mN 279).cls, Cond.instanceMethod (gc_mN 279), Cond.selects (gc_mN 279).cls (gc_mN 279) (gc_mN 279)] [2083, 153, 2081, 2082] (by decide +kernel) (by decide +kernel)
  exact ⟨h _ List.mem_cons_self, h _ (List.mem_cons_of_mem _ List.mem_cons_self), by decide +kernel, by decide +kernel, by decide +kernel, by decide +kernel, by decide +kernel, fun h => absurd h (by decide +kernel), fun _ => ⟨h _ (List.mem_cons_of_mem _ (List.mem_cons_of_mem _ List.mem_cons_self)), h _ (List.mem_cons_of_mem _ (List.mem_cons_of_mem _ (List.mem_cons_of_mem _ List.mem_cons_self))), _, rfl, by decide +kernel⟩, fun h => absurd h (by decide +kernel)⟩
theorem gc_e280 : (gc_cd 280).all (gc_okE 280) = true := by decide +kernel
theorem gc_h280 : gc_chain (gc_cd 280) = true := by decide +kernel
theorem gc_M280 : gc_okM 280 := by
  have h := gc_inL [Cond.code (gc_mN 280) (gc_mB 280) (gc_mL 280) (gc_mR 280), Cond.initialized (gc_mN 280).cls, Cond.instanceMethod (gc_mN 280), Cond.selects (gc_mN 280).cls (gc_mN 280) (gc_mN 280)] [2107, 153, 2105, 2106] (by decide +kernel) (by decide +kernel)
  exact ⟨h _ List.mem_cons_self, h _ (List.mem_cons_of_mem _ List.mem_cons_self), by decide +kernel, by decide +kernel, by decide +kernel, by decide +kernel, by decide +kernel, fun h => absurd h (by decide +kernel), fun _ => ⟨h _ (List.mem_cons_of_mem _ (List.mem_cons_of_mem _ List.mem_cons_self)), h _ (List.mem_cons_of_mem _ (List.mem_cons_of_mem _ (List.mem_cons_of_mem _ List.mem_cons_self))), _, rfl, by decide +kernel⟩, fun h => absurd h (by decide +kernel)⟩
