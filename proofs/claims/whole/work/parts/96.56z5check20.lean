/-! The checks, by program. -/
theorem gc_e297 : (gc_cd 297).all (gc_okE 297) = true := by decide +kernel
theorem gc_h297 : gc_chain (gc_cd 297) = true := by decide +kernel
theorem gc_M297 : gc_okM 297 := by
  have h := gc_inL [Cond.code (gc_mN 297) (gc_mB 297) (gc_mL 297) (gc_mR 297), Cond.initialized (gc_mN 297).cls, Cond.static (gc_mN 297)] [1340, 155, 1339] (by decide +kernel) (by decide +kernel)
  exact ⟨h _ List.mem_cons_self, h _ (List.mem_cons_of_mem _ List.mem_cons_self), by decide +kernel, by decide +kernel, by decide +kernel, by decide +kernel, by decide +kernel, fun _ => h _ (List.mem_cons_of_mem _ (List.mem_cons_of_mem _ List.mem_cons_self)), fun h => absurd h (by decide +kernel), fun h => absurd h (by decide +kernel)⟩
