/-! The checks, by program. -/
theorem gc_e223 : (gc_cd 223).all (gc_okE 223) = true := by decide +kernel
theorem gc_h223 : gc_chain (gc_cd 223) = true := by decide +kernel
theorem gc_M223 : gc_okM 223 := by
  have h := gc_inL [Cond.code (gc_mN 223) (gc_mB 223) (gc_mL 223) (gc_mR 223), Cond.initialized (gc_mN 223).cls, Cond.instanceMethod (gc_mN 223), Cond.selects (gc_mN 223).cls (gc_mN 223) (gc_mN 223)] [1903, 153, 1902, 102] (by decide +kernel) (by decide +kernel)
  exact ⟨h _ List.mem_cons_self, h _ (List.mem_cons_of_mem _ List.mem_cons_self), by decide +kernel, by decide +kernel, by decide +kernel, by decide +kernel, by decide +kernel, fun h => absurd h (by decide +kernel), fun _ => ⟨h _ (List.mem_cons_of_mem _ (List.mem_cons_of_mem _ List.mem_cons_self)), h _ (List.mem_cons_of_mem _ (List.mem_cons_of_mem _ (List.mem_cons_of_mem _ List.mem_cons_self))), _, rfl, by decide +kernel⟩, fun h => absurd h (by decide +kernel)⟩
theorem gc_e224 : (gc_cd 224).all (gc_okE 224) = true := by decide +kernel
theorem gc_h224 : gc_chain (gc_cd 224) = true := by decide +kernel
theorem gc_M224 : gc_okM 224 := by
  have h := gc_inL [Cond.code (gc_mN 224) (gc_mB 224) (gc_mL 224) (gc_mR 224), Cond.initialized (gc_mN 224).cls, Cond.instanceMethod (gc_mN 224), Cond.selects (gc_mN 224).cls (gc_mN 224) (gc_mN 224)] [1844, 153, 1842, 1843] (by decide +kernel) (by decide +kernel)
  exact ⟨h _ List.mem_cons_self, h _ (List.mem_cons_of_mem _ List.mem_cons_self), by decide +kernel, by decide +kernel, by decide +kernel, by decide +kernel, by decide +kernel, fun h => absurd h (by decide +kernel), fun _ => ⟨h _ (List.mem_cons_of_mem _ (List.mem_cons_of_mem _ List.mem_cons_self)), h _ (List.mem_cons_of_mem _ (List.mem_cons_of_mem _ (List.mem_cons_of_mem _ List.mem_cons_self))), _, rfl, by decide +kernel⟩, fun h => absurd h (by decide +kernel)⟩
theorem gc_e225 : (gc_cd 225).all (gc_okE 225) = true := by decide +kernel
theorem gc_h225 : gc_chain (gc_cd 225) = true := by decide +kernel
theorem gc_M225 : gc_okM 225 := by
  have h := gc_inL [Cond.code (gc_mN 225) (gc_mB 225) (gc_mL 225) (gc_mR 225), Cond.initialized (gc_mN 225).cls, Cond.instanceMethod (gc_mN 225), Cond.selects (gc_mN 225).cls (gc_mN 225) (gc_mN 225)] [1855, 153, 1853, 1854] (by decide +kernel) (by decide +kernel)
  exact ⟨h _ List.mem_cons_self, h _ (List.mem_cons_of_mem _ List.mem_cons_self), by decide +kernel, by decide +kernel, by decide +kernel, by decide +kernel, by decide +kernel, fun h => absurd h (by decide +kernel), fun _ => ⟨h _ (List.mem_cons_of_mem _ (List.mem_cons_of_mem _ List.mem_cons_self)), h _ (List.mem_cons_of_mem _ (List.mem_cons_of_mem _ (List.mem_cons_of_mem _ List.mem_cons_self))), _, rfl, by decide +kernel⟩, fun h => absurd h (by decide +kernel)⟩
theorem gc_e226 : (gc_cd 226).all (gc_okE 226) = true := by decide +kernel
theorem gc_h226 : gc_chain (gc_cd 226) = true := by decide +kernel
theorem gc_M226 : gc_okM 226 := by
  have h := gc_inL [Cond.code (gc_mN 226) (gc_mB 226) (gc_mL 226) (gc_mR 226), Cond.initialized (gc_mN 226).cls, Cond.instanceMethod (gc_mN 226), Cond.selects (gc_mN 226).cls (gc_mN 226) (gc_mN 226)] [1859, 153, 1857, 1858] (by decide +kernel) (by decide +kernel)
  exact ⟨h _ List.mem_cons_self, h _ (List.mem_cons_of_mem _ List.mem_cons_self), by decide +kernel, by decide +kernel, by decide +kernel, by decide +kernel, by decide +kernel, fun h => absurd h (by decide +kernel), fun _ => ⟨h _ (List.mem_cons_of_mem _ (List.mem_cons_of_mem _ List.mem_cons_self)), h _ (List.mem_cons_of_mem _ (List.mem_cons_of_mem _ (List.mem_cons_of_mem _ List.mem_cons_self))), _, rfl, by decide +kernel⟩, fun h => absurd h (by decide +kernel)⟩
theorem gc_e227 : (gc_cd 227).all (gc_okE 227) = true := by decide +kernel
theorem gc_h227 : gc_chain (gc_cd 227) = true := by decide +kernel
theorem gc_M227 : gc_okM 227 := by
  have h := gc_inL [Cond.code (gc_mN 227) (gc_mB 227) (gc_mL 227) (gc_mR 227), Cond.initialized (gc_mN 227).cls, Cond.instanceMethod (gc_mN 227), Cond.selects (gc_mN 227).cls (gc_mN 227) (gc_mN 227)] [1863, 153, 1861, 1862] (by decide +kernel) (by decide +kernel)
  exact ⟨h _ List.mem_cons_self, h _ (List.mem_cons_of_mem _ List.mem_cons_self), by decide +kernel, by decide +kernel, by decide +kernel, by decide +kernel, by decide +kernel, fun h => absurd h (by decide +kernel), fun _ => ⟨h _ (List.mem_cons_of_mem _ (List.mem_cons_of_mem _ List.mem_cons_self)), h _ (List.mem_cons_of_mem _ (List.mem_cons_of_mem _ (List.mem_cons_of_mem _ List.mem_cons_self))), _, rfl, by decide +kernel⟩, fun h => absurd h (by decide +kernel)⟩
theorem gc_e228 : (gc_cd 228).all (gc_okE 228) = true := by decide +kernel
theorem gc_h228 : gc_chain (gc_cd 228) = true := by decide +kernel
theorem gc_M228 : gc_okM 228 := by
  have h := gc_inL [Cond.code (gc_mN 228) (gc_mB 228) (gc_mL 228) (gc_mR 228), Cond.initialized (gc_mN 228).cls, Cond.instanceMethod (gc_mN 228), Cond.selects (gc_mN 228).cls (gc_mN 228) (gc_mN 228)] [1867, 153, 1865, 1866] (by decide +kernel) (by decide +kernel)
  exact ⟨h _ List.mem_cons_self, h _ (List.mem_cons_of_mem _ List.mem_cons_self), by decide +kernel, by decide +kernel, by decide +kernel, by decide +kernel, by decide +kernel, fun h => absurd h (by decide +kernel), fun _ => ⟨h _ (List.mem_cons_of_mem _ (List.mem_cons_of_mem _ List.mem_cons_self)), h _ (List.mem_cons_of_mem _ (List.mem_cons_of_mem _ (List.mem_cons_of_mem _ List.mem_cons_self))), _, rfl, by decide +kernel⟩, fun h => absurd h (by decide +kernel)⟩
theorem gc_e229 : (gc_cd 229).all (gc_okE 229) = true := by decide +kernel
theorem gc_h229 : gc_chain (gc_cd 229) = true := by decide +kernel
theorem gc_M229 : gc_okM 229 := by
  have h := gc_inL [Cond.code (gc_mN 229) (gc_mB 229) (gc_mL 229) (gc_mR 229), Cond.initialized (gc_mN 229).cls, Cond.instanceMethod (gc_mN 229), Cond.selects (gc_mN 229).cls (gc_mN 229) (gc_mN 229)] [1871, 153, 1869, 1870] (by decide +kernel) (by decide +kernel)
  exact ⟨h _ List.mem_cons_self, h _ (List.mem_cons_of_mem _ List.mem_cons_self), by decide +kernel, by decide +kernel, by decide +kernel, by decide +kernel, by decide +kernel, fun h => absurd h (by decide +kernel), fun _ => ⟨h _ (List.mem_cons_of_mem _ (List.mem_cons_of_mem _ List.mem_cons_self)), h _ (List.mem_cons_of_mem _ (List.mem_cons_of_mem _ (List.mem_cons_of_mem _ List.mem_cons_self))), _, rfl, by decide +kernel⟩, fun h => absurd h (by decide +kernel)⟩
theorem gc_e230 : (gc_cd 230).all (gc_okE 230) = true := by decide +kernel
theorem gc_h230 : gc_chain (gc_cd 230) = true := by decide +kernel
theorem gc_M230 : gc_okM 230 := by
  have h := gc_inL [Cond.code (gc_mN 230) (gc_mB 230) (gc_mL 230) (gc_mR 230), Cond.initialized (gc_mN 230).cls, Cond.instanceMethod (gc_mN 230), Cond.selects (gc_mN 230).cls (gc_mN 230) (gc_mN 230)] [1879, 153, 1877, 1878] (by decide +kernel) (by decide +kernel)
  exact ⟨h _ List.mem_cons_self, h _ (List.mem_cons_of_mem _ List.mem_cons_self), by decide +kernel, by decide +kernel, by decide +kernel, by decide +kernel, by decide +kernel, fun h => absurd h (by decide +kernel), fun _ => ⟨h _ (List.mem_cons_of_mem _ (List.mem_cons_of_mem _ List.mem_cons_self)), h _ (List.mem_cons_of_mem _ (List.mem_cons_of_mem _ (List.mem_cons_of_mem _ List.mem_cons_self))), _, rfl, by decide +kernel⟩, fun h => absurd h (by decide +kernel)⟩
theorem gc_e231 : (gc_cd 231).all (gc_okE 231) = true := by decide +kernel
theorem gc_h231 : gc_chain (gc_cd 231) = true := by decide +kernel
theorem gc_M231 : gc_okM 231 := by
  have h := gc_inL [Cond.code (gc_mN 231) (gc_mB 231) (gc_mL 231) (gc_mR 231), Cond.initialized (gc_mN 231).cls, Cond.static (gc_mN 231)] [1914, 153, 1913] (by decide +kernel) (by decide +kernel)
  exact ⟨h _ List.mem_cons_self, h _ (List.mem_cons_of_mem _ List.mem_cons_self), by decide +kernel, by decide +kernel, by decide +kernel, by decide +kernel, by decide +kernel, fun _ => h _ (List.mem_cons_of_mem _ (List.mem_cons_of_mem _ List.mem_cons_self)), fun h => absurd h (by decide +kernel), fun h => absurd h (by decide +kernel)⟩
theorem gc_e232 : (gc_cd 232).all (gc_okE 232) = true := by decide +kernel
theorem gc_h232 : gc_chain (gc_cd 232) = true := by decide +kernel
theorem gc_M232 : gc_okM 232 := by
  have h := gc_inL [Cond.code (gc_mN 232) (gc_mB 232) (gc_mL 232) (gc_mR 232), Cond.initialized (gc_mN 232).cls, Cond.instanceMethod (gc_mN 232), Cond.selects (gc_mN 232).cls (gc_mN 232) (gc_mN 232)] [1911, 153, 1910, 104] (by decide +kernel) (by decide +kernel)
  exact ⟨h _ List.mem_cons_self, h _ (List.mem_cons_of_mem _ List.mem_cons_self), by decide +kernel, by decide +kernel, by decide +kernel, by decide +kernel, by decide +kernel, fun h => absurd h (by decide +kernel), fun _ => ⟨h _ (List.mem_cons_of_mem _ (List.mem_cons_of_mem _ List.mem_cons_self)), h _ (List.mem_cons_of_mem _ (List.mem_cons_of_mem _ (List.mem_cons_of_mem _ List.mem_cons_self))), _, rfl, by decide +kernel⟩, fun h => absurd h (by decide +kernel)⟩
theorem gc_e233 : (gc_cd 233).all (gc_okE 233) = true := by decide +kernel
theorem gc_h233 : gc_chain (gc_cd 233) = true := by decide +kernel
theorem gc_M233 : gc_okM 233 := by
  have h := gc_inL [Cond.code (gc_mN 233) (gc_mB 233) (gc_mL 233) (gc_mR 233), Cond.initialized (gc_mN 233).cls, Cond.instanceMethod (gc_mN 233), Cond.selects (gc_mN 233).cls (gc_mN 233) (gc_mN 233)] [1918, 153, 1917, 105] (by decide +kernel) (by decide +kernel)
  exact ⟨h _ List.mem_cons_self, h _ (List.mem_cons_of_mem _ List.mem_cons_self), by decide +kernel, by decide +kernel, by decide +kernel, by decide +kernel, by decide +kernel, fun h => absurd h (by decide +kernel), fun _ => ⟨h _ (List.mem_cons_of_mem _ (List.mem_cons_of_mem _ List.mem_cons_self)), h _ (List.mem_cons_of_mem _ (List.mem_cons_of_mem _ (List.mem_cons_of_mem _ List.mem_cons_self))), _, rfl, by decide +kernel⟩, fun h => absurd h (by decide +kernel)⟩
theorem gc_e234 : (gc_cd 234).all (gc_okE 234) = true := by decide +kernel
theorem gc_h234 : gc_chain (gc_cd 234) = true := by decide +kernel
theorem gc_M234 : gc_okM 234 := by
  have h := gc_inL [Cond.code (gc_mN 234) (gc_mB 234) (gc_mL 234) (gc_mR 234), Cond.initialized (gc_mN 234).cls, Cond.static (gc_mN 234)] [1921, 153, 1920] (by decide +kernel) (by decide +kernel)
  exact ⟨h _ List.mem_cons_self, h _ (List.mem_cons_of_mem _ List.mem_cons_self), by decide +kernel, by decide +kernel, by decide +kernel, by decide +kernel, by decide +kernel, fun _ => h _ (List.mem_cons_of_mem _ (List.mem_cons_of_mem _ List.mem_cons_self)), fun h => absurd h (by decide +kernel), fun h => absurd h (by decide +kernel)⟩
theorem gc_e235 : (gc_cd 235).all (gc_okE 235) = true := by decide +kernel
theorem gc_h235 : gc_chain (gc_cd 235) = true := by decide +kernel
theorem gc_M235 : gc_okM 235 := by
  have h := gc_inL [Cond.code (gc_mN 235) (gc_mB 235) (gc_mL 235) (gc_mR 235), Cond.initialized (gc_mN 235).cls, Cond.static (gc_mN 235)] [1927, 153, 1926] (by decide +kernel) (by decide +kernel)
  exact ⟨h _ List.mem_cons_self, h _ (List.mem_cons_of_mem _ List.mem_cons_self), by decide +kernel, by decide +kernel, by decide +kernel, by decide +kernel, by decide +kernel, fun _ => h _ (List.mem_cons_of_mem _ (List.mem_cons_of_mem _ List.mem_cons_self)), fun h => absurd h (by decide +kernel), fun h => absurd h (by decide +kernel)⟩
theorem gc_e236 : (gc_cd 236).all (gc_okE 236) = true := by decide +kernel
theorem gc_h236 : gc_chain (gc_cd 236) = true := by decide +kernel
theorem gc_M236 : gc_okM 236 := by
  have h := gc_inL [Cond.code (gc_mN 236) (gc_mB 236) (gc_mL 236) (gc_mR 236), Cond.initialized (gc_mN 236).cls, Cond.static (gc_mN 236)] [1924, 153, 1923] (by decide +kernel) (by decide +kernel)
  exact ⟨h _ List.mem_cons_self, h _ (List.mem_cons_of_mem _ List.mem_cons_self), by decide +kernel, by decide +kernel, by decide +kernel, by decide +kernel, by decide +kernel, fun _ => h _ (List.mem_cons_of_mem _ (List.mem_cons_of_mem _ List.mem_cons_self)), fun h => absurd h (by decide +kernel), fun h => absurd h (by decide +kernel)⟩
theorem gc_e237 : (gc_cd 237).all (gc_okE 237) = true := by decide +kernel
theorem gc_h237 : gc_chain (gc_cd 237) = true := by decide +kernel
theorem gc_M237 : gc_okM 237 := by
  have h := gc_inL [Cond.code (gc_mN 237) (gc_mB 237) (gc_mL 237) (gc_mR 237), Cond.initialized (gc_mN 237).cls, Cond.instanceMethod (gc_mN 237), Cond.selects (gc_mN 237).cls (gc_mN 237) (gc_mN 237)] [1931, 153, 1930, 106] (by decide +kernel) (by decide +kernel)
  exact ⟨h _ List.mem_cons_self, h _ (List.mem_cons_of_mem _ List.mem_cons_self), by decide +kernel, by decide +kernel, by decide +kernel, by decide +kernel, by decide +kernel, fun h => absurd h (by decide +kernel), fun _ => ⟨h _ (List.mem_cons_of_mem _ (List.mem_cons_of_mem _ List.mem_cons_self)), h _ (List.mem_cons_of_mem _ (List.mem_cons_of_mem _ (List.mem_cons_of_mem _ List.mem_cons_self))), _, rfl, by decide +kernel⟩, fun h => absurd h (by decide +kernel)⟩
