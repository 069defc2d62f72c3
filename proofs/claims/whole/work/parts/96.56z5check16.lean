/-! The checks, by program. -/
theorem gc_e264 : (gc_cd 264).all (gc_okE 264) = true := by decide +kernel
theorem gc_h264 : gc_chain (gc_cd 264) = true := by decide +kernel
set_option maxRecDepth 100000 in
theorem gc_M264 : gc_okM 264 := by
  have h := gc_inL [Cond.initialized (gc_mN 264).cls, Cond.instanceMethod (gc_mN 264), Cond.selects (gc_mN 264).cls (gc_mN 264) (gc_mN 264)] [153, 2031, 122] (by decide +kernel) (by decide +kernel)
  exact ⟨List.mem_filter.mpr ⟨List.mem_append_right _ (List.mem_append_right _ (List.mem_append_right _ (List.mem_append_right _ (List.mem_append_right _ (List.mem_append_right _ (List.mem_append_right _ (List.mem_append_right _ (List.mem_append_left _ (List.mem_of_getElem? (l := tables_1_8) (i := 215) rfl))))))))), rfl⟩, h _ List.mem_cons_self, by decide +kernel, by decide +kernel, by decide +kernel, by decide +kernel, by decide +kernel, fun h => absurd h (by decide +kernel), fun _ => ⟨h _ (List.mem_cons_of_mem _ List.mem_cons_self), h _ (List.mem_cons_of_mem _ (List.mem_cons_of_mem _ List.mem_cons_self)), _, rfl, by decide +kernel⟩, fun h => absurd h (by decide +kernel)⟩
theorem gc_e265 : (gc_cd 265).all (gc_okE 265) = true := by decide +kernel
theorem gc_h265 : gc_chain (gc_cd 265) = true := by decide +kernel
theorem gc_M265 : gc_okM 265 := by
  have h := gc_inL [Cond.code (gc_mN 265) (gc_mB 265) (gc_mL 265) (gc_mR 265), Cond.initialized (gc_mN 265).cls, Cond.instanceMethod (gc_mN 265), Cond.selects (gc_mN 265).cls (gc_mN 265) (gc_mN 265)] [2047, 153, 2046, 125] (by decide +kernel) (by decide +kernel)
  exact ⟨h _ List.mem_cons_self, h _ (List.mem_cons_of_mem _ List.mem_cons_self), by decide +kernel, by decide +kernel, by decide +kernel, by decide +kernel, by decide +kernel, fun h => absurd h (by decide +kernel), fun _ => ⟨h _ (List.mem_cons_of_mem _ (List.mem_cons_of_mem _ List.mem_cons_self)), h _ (List.mem_cons_of_mem _ (List.mem_cons_of_mem _ (List.mem_cons_of_mem _ List.mem_cons_self))), _, rfl, by decide +kernel⟩, fun h => absurd h (by decide +kernel)⟩
