/-! The checks, by program. -/
theorem gc_e266 : (gc_cd 266).all (gc_okE 266) = true := by decide +kernel
theorem gc_h266 : gc_chain (gc_cd 266) = true := by decide +kernel
set_option maxRecDepth 100000 in
theorem gc_M266 : gc_okM 266 := by
  have h := gc_inL [Cond.initialized (gc_mN 266).cls, Cond.instanceMethod (gc_mN 266), Cond.selects (gc_mN 266).cls (gc_mN 266) (gc_mN 266)] [153, 2050, 126] (by decide +kernel) (by decide +kernel)
  exact ⟨List.mem_filter.mpr ⟨List.mem_append_right _ (List.mem_append_right _ (List.mem_append_right _ (List.mem_append_right _ (List.mem_append_right _ (List.mem_append_right _ (List.mem_append_right _ (List.mem_append_right _ (List.mem_append_left _ (List.mem_of_getElem? (l := tables_1_8) (i := 234) rfl))))))))), rfl⟩, h _ List.mem_cons_self, by decide +kernel, by decide +kernel, by decide +kernel, by decide +kernel, by decide +kernel, fun h => absurd h (by decide +kernel), fun _ => ⟨h _ (List.mem_cons_of_mem _ List.mem_cons_self), h _ (List.mem_cons_of_mem _ (List.mem_cons_of_mem _ List.mem_cons_self)), _, rfl, by decide +kernel⟩, fun h => absurd h (by decide +kernel)⟩
theorem gc_e267 : (gc_cd 267).all (gc_okE 267) = true := by decide +kernel
theorem gc_h267 : gc_chain (gc_cd 267) = true := by decide +kernel
theorem gc_M267 : gc_okM 267 := by
  have h := gc_inL [Cond.code (gc_mN 267) (gc_mB 267) (gc_mL 267) (gc_mR 267), Cond.initialized (gc_mN 267).cls, Cond.instanceMethod (gc_mN 267), Cond.selects (gc_mN 267).cls (gc_mN 267) (gc_mN 267)] [2055, 153, 2054, 127] (by decide +kernel) (by decide +kernel)
  exact ⟨h _ List.mem_cons_self, h _ (List.mem_cons_of_mem _ List.mem_cons_self), by decide +kernel, by decide +kernel, by decide +kernel, by decide +kernel, by decide +kernel, fun h => absurd h (by decide +kernel), fun _ => ⟨h _ (List.mem_cons_of_mem _ (List.mem_cons_of_mem _ List.mem_cons_self)), h _ (List.mem_cons_of_mem _ (List.mem_cons_of_mem _ (List.mem_cons_of_mem _ List.mem_cons_self))), _, rfl, by decide +kernel⟩, fun h => absurd h (by decide +kernel)⟩
theorem gc_e268 : (gc_cd 268).all (gc_okE 268) = true := by decide +kernel
theorem gc_h268 : gc_chain (gc_cd 268) = true := by decide +kernel
theorem gc_M268 : gc_okM 268 := by
  have h := gc_inL [Cond.code (gc_mN 268) (gc_mB 268) (gc_mL 268) (gc_mR 268), Cond.initialized (gc_mN 268).cls, Cond.instanceMethod (gc_mN 268), Cond.selects (gc_mN 268).cls (gc_mN 268) (gc_mN 268)] [2059, 153, 2057, 2058] (by decide +kernel) (by decide +kernel)
  exact ⟨h _ List.mem_cons_self, h _ (List.mem_cons_of_mem _ List.mem_cons_self), by decide +kernel, by decide +kernel, by decide +kernel, by decide +kernel, by decide +kernel, fun h => absurd h (by decide +kernel), fun _ => ⟨h _ (List.mem_cons_of_mem _ (List.mem_cons_of_mem _ List.mem_cons_self)), h _ (List.mem_cons_of_mem _ (List.mem_cons_of_mem _ (List.mem_cons_of_mem _ List.mem_cons_self))), _, rfl, by decide +kernel⟩, fun h => absurd h (by decide +kernel)⟩
theorem gc_e269 : (gc_cd 269).all (gc_okE 269) = true := by decide +kernel
theorem gc_h269 : gc_chain (gc_cd 269) = true := by decide +kernel
theorem gc_M269 : gc_okM 269 := by
  have h := gc_inL [Cond.code (gc_mN 269) (gc_mB 269) (gc_mL 269) (gc_mR 269), Cond.initialized (gc_mN 269).cls, Cond.instanceMethod (gc_mN 269), Cond.selects (gc_mN 269).cls (gc_mN 269) (gc_mN 269)] [2071, 153, 2070, 129] (by decide +kernel) (by decide +kernel)
  exact ⟨h _ List.mem_cons_self, h _ (List.mem_cons_of_mem _ List.mem_cons_self), by decide +kernel, by decide +kernel, by decide +kernel, by decide +kernel, by decide +kernel, fun h => absurd h (by decide +kernel), fun _ => ⟨h _ (List.mem_cons_of_mem _ (List.mem_cons_of_mem _ List.mem_cons_self)), h _ (List.mem_cons_of_mem _ (List.mem_cons_of_mem _ (List.mem_cons_of_mem _ List.mem_cons_self))), _, rfl, by decide +kernel⟩, fun h => absurd h (by decide +kernel)⟩
theorem gc_e270 : (gc_cd 270).all (gc_okE 270) = true := by decide +kernel
theorem gc_h270 : gc_chain (gc_cd 270) = true := by decide +kernel
theorem gc_M270 : gc_okM 270 := by
  have h := gc_inL [Cond.code (gc_mN 270) (gc_mB 270) (gc_mL 270) (gc_mR 270), Cond.initialized (gc_mN 270).cls, Cond.instanceMethod (gc_mN 270), Cond.selects (gc_mN 270).cls (gc_mN 270) (gc_mN 270)] [2067, 153, 2066, 128] (by decide +kernel) (by decide +kernel)
  exact ⟨h _ List.mem_cons_self, h _ (List.mem_cons_of_mem _ List.mem_cons_self), by decide +kernel, by decide +kernel, by decide +kernel, by decide +kernel, by decide +kernel, fun h => absurd h (by decide +kernel), fun _ => ⟨h _ (List.mem_cons_of_mem _ (List.mem_cons_of_mem _ List.mem_cons_self)), h _ (List.mem_cons_of_mem _ (List.mem_cons_of_mem _ (List.mem_cons_of_mem _ List.mem_cons_self))), _, rfl, by decide +kernel⟩, fun h => absurd h (by decide +kernel)⟩
theorem gc_e271 : (gc_cd 271).all (gc_okE 271) = true := by decide +kernel
theorem gc_h271 : gc_chain (gc_cd 271) = true := by decide +kernel
theorem gc_M271 : gc_okM 271 := by
  have h := gc_inL [Cond.code (gc_mN 271) (gc_mB 271) (gc_mL 271) (gc_mR 271), Cond.initialized (gc_mN 271).cls, Cond.instanceMethod (gc_mN 271), Cond.selects (gc_mN 271).cls (gc_mN 271) (gc_mN 271)] [2079, 153, 2078, 130] (by decide +kernel) (by decide +kernel)
  exact ⟨h _ List.mem_cons_self, h _ (List.mem_cons_of_mem _ List.mem_cons_self), by decide +kernel, by decide +kernel, by decide +kernel, by decide +kernel, by decide +kernel, fun h => absurd h (by decide +kernel), fun _ => ⟨h _ (List.mem_cons_of_mem _ (List.mem_cons_of_mem _ List.mem_cons_self)), h _ (List.mem_cons_of_mem _ (List.mem_cons_of_mem _ (List.mem_cons_of_mem _ List.mem_cons_self))), _, rfl, by decide +kernel⟩, fun h => absurd h (by decide +kernel)⟩
theorem gc_e272 : (gc_cd 272).all (gc_okE 272) = true := by decide +kernel
theorem gc_h272 : gc_chain (gc_cd 272) = true := by decide +kernel
theorem gc_M272 : gc_okM 272 := by
  have h := gc_inL [Cond.code (gc_mN 272) (gc_mB 272) (gc_mL 272) (gc_mR 272), Cond.initialized (gc_mN 272).cls, Cond.instanceMethod (gc_mN 272), Cond.selects (gc_mN 272).cls (gc_mN 272) (gc_mN 272)] [2063, 153, 2061, 2062] (by decide +kernel) (by decide +kernel)
  exact ⟨h _ List.mem_cons_self, h _ (List.mem_cons_of_mem _ List.mem_cons_self), by decide +kernel, by decide +kernel, by decide +kernel, by decide +kernel, by decide +kernel, fun h => absurd h (by decide +kernel), fun _ => ⟨h _ (List.mem_cons_of_mem _ (List.mem_cons_of_mem _ List.mem_cons_self)), h _ (List.mem_cons_of_mem _ (List.mem_cons_of_mem _ (List.mem_cons_of_mem _ List.mem_cons_self))), _, rfl, by decide +kernel⟩, fun h => absurd h (by decide +kernel)⟩
theorem gc_e273 : (gc_cd 273).all (gc_okE 273) = true := by decide +kernel
theorem gc_h273 : gc_chain (gc_cd 273) = true := by decide +kernel
theorem gc_M273 : gc_okM 273 := by
  have h := gc_inL [Cond.code (gc_mN 273) (gc_mB 273) (gc_mL 273) (gc_mR 273), Cond.initialized (gc_mN 273).cls, Cond.instanceMethod (gc_mN 273), Cond.selects (gc_mN 273).cls (gc_mN 273) (gc_mN 273)] [2075, 153, 2073, 2074] (by decide +kernel) (by decide +kernel)
  exact ⟨h _ List.mem_cons_self, h _ (List.mem_cons_of_mem _ List.mem_cons_self), by decide +kernel, by decide +kernel, by decide +kernel, by decide +kernel, by decide +kernel, fun h => absurd h (by decide +kernel), fun _ => ⟨h _ (List.mem_cons_of_mem _ (List.mem_cons_of_mem _ List.mem_cons_self)), h _ (List.mem_cons_of_mem _ (List.mem_cons_of_mem _ (List.mem_cons_of_mem _ List.mem_cons_self))), _, rfl, by decide +kernel⟩, fun h => absurd h (by decide +kernel)⟩
theorem gc_e274 : (gc_cd 274).all (gc_okE 274) = true := by decide +kernel
theorem gc_h274 : gc_chain (gc_cd 274) = true := by decide +kernel
theorem gc_M274 : gc_okM 274 := by
  have h := gc_inL [Cond.code (gc_mN 274) (gc_mB 274) (gc_mL 274) (gc_mR 274), Cond.initialized (gc_mN 274).cls, Cond.instanceMethod (gc_mN 274), Cond.selects (gc_mN 274).cls (gc_mN 274) (gc_mN 274)] [2099, 153, 2098, 134] (by decide +kernel) (by decide +kernel)
  exact ⟨h _ List.mem_cons_self, h _ (List.mem_cons_of_mem _ List.mem_cons_self), by decide +kernel, by decide +kernel, by decide +kernel, by decide +kernel, by decide +kernel, fun h => absurd h (by decide +kernel), fun _ => ⟨h _ (List.mem_cons_of_mem _ (List.mem_cons_of_mem _ List.mem_cons_self)), h _ (List.mem_cons_of_mem _ (List.mem_cons_of_mem _ (List.mem_cons_of_mem _ List.mem_cons_self))), _, rfl, by decide +kernel⟩, fun h => absurd h (by decide +kernel)⟩
