/-! The checks, by program. -/
theorem gc_e297 : (gc_cd 297).all (gc_okE 297) = true := by decide +kernel
theorem gc_h297 : gc_chain (gc_cd 297) = true := by decide +kernel
theorem gc_M297 : gc_okM 297 := by
  have h := gc_inL [Cond.code (gc_mN 297) (gc_mB 297) (gc_mL 297) (gc_mR 297), Cond.initialized (gc_mN 297).cls, Cond.static (gc_mN 297)] [1340, 155, 1339] (by decide +kernel) (by decide +kernel)
  exact ⟨h _ List.mem_cons_self, h _ (List.mem_cons_of_mem _ List.mem_cons_self), by decide +kernel, by decide +kernel, by decide +kernel, by decide +kernel, by decide +kernel, fun _ => h _ (List.mem_cons_of_mem _ (List.mem_cons_of_mem _ List.mem_cons_self)), fun h => absurd h (by decide +kernel), fun h => absurd h (by decide +kernel)⟩
theorem gc_e298 : (gc_cd 298).all (gc_okE 298) = true := by decide +kernel
theorem gc_h298 : gc_chain (gc_cd 298) = true := by decide +kernel
theorem gc_M298 : gc_okM 298 := by
  have h := gc_inL [Cond.code (gc_mN 298) (gc_mB 298) (gc_mL 298) (gc_mR 298), Cond.initialized (gc_mN 298).cls, Cond.static (gc_mN 298)] [974, 154, 973] (by decide +kernel) (by decide +kernel)
  exact ⟨h _ List.mem_cons_self, h _ (List.mem_cons_of_mem _ List.mem_cons_self), by decide +kernel, by decide +kernel, by decide +kernel, by decide +kernel, by decide +kernel, fun _ => h _ (List.mem_cons_of_mem _ (List.mem_cons_of_mem _ List.mem_cons_self)), fun h => absurd h (by decide +kernel), fun h => absurd h (by decide +kernel)⟩
theorem gc_e299 : (gc_cd 299).all (gc_okE 299) = true := by decide +kernel
theorem gc_h299 : gc_chain (gc_cd 299) = true := by decide +kernel
theorem gc_M299 : gc_okM 299 := by
  have h := gc_inL [Cond.code (gc_mN 299) (gc_mB 299) (gc_mL 299) (gc_mR 299), Cond.initialized (gc_mN 299).cls, Cond.static (gc_mN 299)] [1266, 154, 1265] (by decide +kernel) (by decide +kernel)
  exact ⟨h _ List.mem_cons_self, h _ (List.mem_cons_of_mem _ List.mem_cons_self), by decide +kernel, by decide +kernel, by decide +kernel, by decide +kernel, by decide +kernel, fun _ => h _ (List.mem_cons_of_mem _ (List.mem_cons_of_mem _ List.mem_cons_self)), fun h => absurd h (by decide +kernel), fun h => absurd h (by decide +kernel)⟩
