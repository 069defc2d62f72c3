/-! The checks, by program. -/
theorem gc_e275 : (gc_cd 275).all (gc_okE 275) = true := by decide +kernel
theorem gc_h275 : gc_chain (gc_cd 275) = true := by decide +kernel
theorem gc_M275 : gc_okM 275 := by
  have h := gc_inL [Cond.code (gc_mN 275) (gc_mB 275) (gc_mL 275) (gc_mR 275), Cond.initialized (gc_mN 275).cls, Cond.instanceMethod (gc_mN 275), Cond.selects (gc_mN 275).cls (gc_mN 275) (gc_mN 275)] [2095, 153, 2094, 133] (by decide +kernel) (by decide +kernel)
  exact ⟨h _ List.mem_cons_self, h _ (List.mem_cons_of_mem _ List.mem_cons_self), by decide +kernel, by decide +kernel, by decide +kernel, by decide +kernel, by decide +kernel, fun h => absurd h (by decide +kernel), fun _ => ⟨h _ (List.mem_cons_of_mem _ (List.mem_cons_of_mem _ List.mem_cons_self)), h _ (List.mem_cons_of_mem _ (List.mem_cons_of_mem _ (List.mem_cons_of_mem _ List.mem_cons_self))), _, rfl, by decide +kernel⟩, fun h => absurd h (by decide +kernel)⟩
theorem gc_e276 : (gc_cd 276).all (gc_okE 276) = true := by decide +kernel
theorem gc_h276 : gc_chain (gc_cd 276) = true := by decide +kernel
theorem gc_M276 : gc_okM 276 := by
  have h := gc_inL [Cond.code (gc_mN 276) (gc_mB 276) (gc_mL 276) (gc_mR 276), Cond.initialized (gc_mN 276).cls, Cond.instanceMethod (gc_mN 276), Cond.selects (gc_mN 276).cls (gc_mN 276) (gc_mN 276)] [2091, 153, 2090, 132] (by decide +kernel) (by decide +kernel)
  exact ⟨h _ List.mem_cons_self, h _ (List.mem_cons_of_mem _ List.mem_cons_self), by decide +kernel, by decide +kernel, by decide +kernel, by decide +kernel, by decide +kernel, fun h => absurd h (by decide +kernel), fun _ => ⟨h _ (List.mem_cons_of_mem _ (List.mem_cons_of_mem _ List.mem_cons_self)), h _ (List.mem_cons_of_mem _ (List.mem_cons_of_mem _ (List.mem_cons_of_mem _ List.mem_cons_self))), _, rfl, by decide +kernel⟩, fun h => absurd h (by decide +kernel)⟩
theorem gc_e277 : (gc_cd 277).all (gc_okE 277) = true := by decide +kernel
theorem gc_h277 : gc_chain (gc_cd 277) = true := by decide +kernel
theorem gc_M277 : gc_okM 277 := by
  have h := gc_inL [Cond.code (gc_mN 277) (gc_mB 277) (gc_mL 277) (gc_mR 277), Cond.initialized (gc_mN 277).cls, Cond.instanceMethod (gc_mN 277), Cond.selects (gc_mN 277).cls (gc_mN 277) (gc_mN 277)] [2103, 153, 2102, 135] (by decide +kernel) (by decide +kernel)
  exact ⟨h _ List.mem_cons_self, h _ (List.mem_cons_of_mem _ List.mem_cons_self), by decide +kernel, by decide +kernel, by decide +kernel, by decide +kernel, by decide +kernel, fun h => absurd h (by decide +kernel), fun _ => ⟨h _ (List.mem_cons_of_mem _ (List.mem_cons_of_mem _ List.mem_cons_self)), h _ (List.mem_cons_of_mem _ (List.mem_cons_of_mem _ (List.mem_cons_of_mem _ List.mem_cons_self))), _, rfl, by decide +kernel⟩, fun h => absurd h (by decide +kernel)⟩
theorem gc_e278 : (gc_cd 278).all (gc_okE 278) = true := by decide +kernel
theorem gc_h278 : gc_chain (gc_cd 278) = true := by decide +kernel
theorem gc_M278 : gc_okM 278 := by
  have h := gc_inL [Cond.code (gc_mN 278) (gc_mB 278) (gc_mL 278) (gc_mR 278), Cond.initialized (gc_mN 278).cls, Cond.instanceMethod (gc_mN 278), Cond.selects (gc_mN 278).cls (gc_mN 278) (gc_mN 278)] [2087, 153, 2086, 131] (by decide +kernel) (by decide +kernel)
  exact ⟨h _ List.mem_cons_self, h _ (List.mem_cons_of_mem _ List.mem_cons_self), by decide +kernel, by decide +kernel, by decide +kernel, by decide +kernel, by decide +kernel, fun h => absurd h (by decide +kernel), fun _ => ⟨h _ (List.mem_cons_of_mem _ (List.mem_cons_of_mem _ List.mem_cons_self)), h _ (List.mem_cons_of_mem _ (List.mem_cons_of_mem _ (List.mem_cons_of_mem _ List.mem_cons_self))), _, rfl, by decide +kernel⟩, fun h => absurd h (by decide +kernel)⟩
theorem gc_e279 : (gc_cd 279).all (gc_okE 279) = true := by decide +kernel
theorem gc_h279 : gc_chain (gc_cd 279) = true := by decide +kernel
theorem gc_M279 : gc_okM 279 := by
  have h := gc_inL [Cond.code (gc_mN 279) (gc_mB 279) (gc_mL 279) (gc_mR 279), Cond.initialized (gc_mN 279).cls, Cond.instanceMethod (gc_mN 279), Cond.selects (gc_mN 279).cls (gc_mN 279) (gc_mN 279)] [2083, 153, 2081, 2082] (by decide +kernel) (by decide +kernel)
  exact ⟨h _ List.mem_cons_self, h _ (List.mem_cons_of_mem _ List.mem_cons_self), by decide +kernel, by decide +kernel, by decide +kernel, by decide +kernel, by decide +kernel, fun h => absurd h (by decide +kernel), fun _ => ⟨h _ (List.mem_cons_of_mem _ (List.mem_cons_of_mem _ List.mem_cons_self)), h _ (List.mem_cons_of_mem _ (List.mem_cons_of_mem _ (List.mem_cons_of_mem _ List.mem_cons_self))), _, rfl, by decide +kernel⟩, fun h => absurd h (by decide +kernel)⟩
theorem gc_e280 : (gc_cd 280).all (gc_okE 280) = true := by decide +kernel
theorem gc_h280 : gc_chain (gc_cd 280) = true := by decide +kernel
theorem gc_M280 : gc_okM 280 := by
  have h := gc_inL [Cond.code (gc_mN 280) (gc_mB 280) (gc_mL 280) (gc_mR 280), Cond.initialized (gc_mN 280).cls, Cond.instanceMethod (gc_mN 280), Cond.selects (gc_mN 280).cls (gc_mN 280) (gc_mN 280)] [2107, 153, 2105, 2106] (by decide +kernel) (by decide +kernel)
  exact ⟨h _ List.mem_cons_self, h _ (List.mem_cons_of_mem _ List.mem_cons_self), by decide +kernel, by decide +kernel, by decide +kernel, by decide +kernel, by decide +kernel, fun h => absurd h (by decide +kernel), fun _ => ⟨h _ (List.mem_cons_of_mem _ (List.mem_cons_of_mem _ List.mem_cons_self)), h _ (List.mem_cons_of_mem _ (List.mem_cons_of_mem _ (List.mem_cons_of_mem _ List.mem_cons_self))), _, rfl, by decide +kernel⟩, fun h => absurd h (by decide +kernel)⟩
theorem gc_e281 : (gc_cd 281).all (gc_okE 281) = true := by decide +kernel
theorem gc_h281 : gc_chain (gc_cd 281) = true := by decide +kernel
theorem gc_M281 : gc_okM 281 := by
  have h := gc_inL [Cond.code (gc_mN 281) (gc_mB 281) (gc_mL 281) (gc_mR 281), Cond.initialized (gc_mN 281).cls, Cond.static (gc_mN 281)] [2118, 153, 2117] (by decide +kernel) (by decide +kernel)
  exact ⟨h _ List.mem_cons_self, h _ (List.mem_cons_of_mem _ List.mem_cons_self), by decide +kernel, by decide +kernel, by decide +kernel, by decide +kernel, by decide +kernel, fun _ => h _ (List.mem_cons_of_mem _ (List.mem_cons_of_mem _ List.mem_cons_self)), fun h => absurd h (by decide +kernel), fun h => absurd h (by decide +kernel)⟩
theorem gc_e282 : (gc_cd 282).all (gc_okE 282) = true := by decide +kernel
theorem gc_h282 : gc_chain (gc_cd 282) = true := by decide +kernel
theorem gc_M282 : gc_okM 282 := by
  have h := gc_inL [Cond.code (gc_mN 282) (gc_mB 282) (gc_mL 282) (gc_mR 282), Cond.initialized (gc_mN 282).cls, Cond.instanceMethod (gc_mN 282), Cond.selects (gc_mN 282).cls (gc_mN 282) (gc_mN 282)] [2115, 153, 2114, 136] (by decide +kernel) (by decide +kernel)
  exact ⟨h _ List.mem_cons_self, h _ (List.mem_cons_of_mem _ List.mem_cons_self), by decide +kernel, by decide +kernel, by decide +kernel, by decide +kernel, by decide +kernel, fun h => absurd h (by decide +kernel), fun _ => ⟨h _ (List.mem_cons_of_mem _ (List.mem_cons_of_mem _ List.mem_cons_self)), h _ (List.mem_cons_of_mem _ (List.mem_cons_of_mem _ (List.mem_cons_of_mem _ List.mem_cons_self))), _, rfl, by decide +kernel⟩, fun h => absurd h (by decide +kernel)⟩
theorem gc_e283 : (gc_cd 283).all (gc_okE 283) = true := by decide +kernel
theorem gc_h283 : gc_chain (gc_cd 283) = true := by decide +kernel
theorem gc_M283 : gc_okM 283 := by
  have h := gc_inL [Cond.code (gc_mN 283) (gc_mB 283) (gc_mL 283) (gc_mR 283), Cond.initialized (gc_mN 283).cls, Cond.instanceMethod (gc_mN 283), Cond.selects (gc_mN 283).cls (gc_mN 283) (gc_mN 283)] [2111, 153, 2109, 2110] (by decide +kernel) (by decide +kernel)
  exact ⟨h _ List.mem_cons_self, h _ (List.mem_cons_of_mem _ List.mem_cons_self), by decide +kernel, by decide +kernel, by decide +kernel, by decide +kernel, by decide +kernel, fun h => absurd h (by decide +kernel), fun _ => ⟨h _ (List.mem_cons_of_mem _ (List.mem_cons_of_mem _ List.mem_cons_self)), h _ (List.mem_cons_of_mem _ (List.mem_cons_of_mem _ (List.mem_cons_of_mem _ List.mem_cons_self))), _, rfl, by decide +kernel⟩, fun h => absurd h (by decide +kernel)⟩
theorem gc_e284 : (gc_cd 284).all (gc_okE 284) = true := by decide +kernel
theorem gc_h284 : gc_chain (gc_cd 284) = true := by decide +kernel
theorem gc_M284 : gc_okM 284 := by
  have h := gc_inL [Cond.code (gc_mN 284) (gc_mB 284) (gc_mL 284) (gc_mR 284), Cond.initialized (gc_mN 284).cls, Cond.instanceMethod (gc_mN 284), Cond.selects (gc_mN 284).cls (gc_mN 284) (gc_mN 284)] [2122, 153, 2120, 2121] (by decide +kernel) (by decide +kernel)
  exact ⟨h _ List.mem_cons_self, h _ (List.mem_cons_of_mem _ List.mem_cons_self), by decide +kernel, by decide +kernel, by decide +kernel, by decide +kernel, by decide +kernel, fun h => absurd h (by decide +kernel), fun _ => ⟨h _ (List.mem_cons_of_mem _ (List.mem_cons_of_mem _ List.mem_cons_self)), h _ (List.mem_cons_of_mem _ (List.mem_cons_of_mem _ (List.mem_cons_of_mem _ List.mem_cons_self))), _, rfl, by decide +kernel⟩, fun h => absurd h (by decide +kernel)⟩
