/-! The checks, by program. -/
theorem gc_e257 : (gc_cd 257).all (gc_okE 257) = true := by decide +kernel
theorem gc_h257 : gc_chain (gc_cd 257) = true := by decide +kernel
theorem gc_M257 : gc_okM 257 := by
  have h := gc_inL [Cond.code (gc_mN 257) (gc_mB 257) (gc_mL 257) (gc_mR 257), Cond.initialized (gc_mN 257).cls, Cond.instanceMethod (gc_mN 257), Cond.selects (gc_mN 257).cls (gc_mN 257) (gc_mN 257)] [2020, 153, 2019, 120] (by decide +kernel) (by decide +kernel)
  exact ⟨h _ List.mem_cons_self, h _ (List.mem_cons_of_mem _ List.mem_cons_self), by decide +kernel, by decide +kernel, by decide +kernel, by decide +kernel, by decide +kernel, fun h => absurd h (by decide +kernel), fun _ => ⟨h _ (List.mem_cons_of_mem _ (List.mem_cons_of_mem _ List.mem_cons_self)), h _ (List.mem_cons_of_mem _ (List.mem_cons_of_mem _ (List.mem_cons_of_mem _ List.mem_cons_self))), _, rfl, by decide +kernel⟩, fun h => absurd h (by decide +kernel)⟩
theorem gc_e258 : (gc_cd 258).all (gc_okE 258) = true := by decide +kernel
theorem gc_h258 : gc_chain (gc_cd 258) = true := by decide +kernel
theorem gc_M258 : gc_okM 258 := by
  have h := gc_inL [Cond.code (gc_mN 258) (gc_mB 258) (gc_mL 258) (gc_mR 258), Cond.initialized (gc_mN 258).cls, Cond.instanceMethod (gc_mN 258), Cond.selects (gc_mN 258).cls (gc_mN 258) (gc_mN 258)] [2016, 153, 2014, 2015] (by decide +kernel) (by decide +kernel)
  exact ⟨h _ List.mem_cons_self, h _ (List.mem_cons_of_mem _ List.mem_cons_self), by decide +kernel, by decide +kernel, by decide +kernel, by decide +kernel, by decide +kernel, fun h => absurd h (by decide +kernel), fun _ => ⟨h _ (List.mem_cons_of_mem _ (List.mem_cons_of_mem _ List.mem_cons_self)), h _ (List.mem_cons_of_mem _ (List.mem_cons_of_mem _ (List.mem_cons_of_mem _ List.mem_cons_self))), _, rfl, by decide +kernel⟩, fun h => absurd h (by decide +kernel)⟩
theorem gc_e259 : (gc_cd 259).all (gc_okE 259) = true := by decide +kernel
theorem gc_h259 : gc_chain (gc_cd 259) = true := by decide +kernel
theorem gc_M259 : gc_okM 259 := by
  have h := gc_inL [Cond.code (gc_mN 259) (gc_mB 259) (gc_mL 259) (gc_mR 259), Cond.initialized (gc_mN 259).cls, Cond.instanceMethod (gc_mN 259), Cond.selects (gc_mN 259).cls (gc_mN 259) (gc_mN 259)] [2028, 153, 2027, 121] (by decide +kernel) (by decide +kernel)
  exact ⟨h _ List.mem_cons_self, h _ (List.mem_cons_of_mem _ List.mem_cons_self), by decide +kernel, by decide +kernel, by decide +kernel, by decide +kernel, by decide +kernel, fun h => absurd h (by decide +kernel), fun _ => ⟨h _ (List.mem_cons_of_mem _ (List.mem_cons_of_mem _ List.mem_cons_self)), h _ (List.mem_cons_of_mem _ (List.mem_cons_of_mem _ (List.mem_cons_of_mem _ List.mem_cons_self))), _, rfl, by decide +kernel⟩, fun h => absurd h (by decide +kernel)⟩
theorem gc_e260 : (gc_cd 260).all (gc_okE 260) = true := by decide +kernel
theorem gc_h260 : gc_chain (gc_cd 260) = true := by decide +kernel
theorem gc_M260 : gc_okM 260 := by
  have h := gc_inL [Cond.code (gc_mN 260) (gc_mB 260) (gc_mL 260) (gc_mR 260), Cond.initialized (gc_mN 260).cls, Cond.instanceMethod (gc_mN 260), Cond.selects (gc_mN 260).cls (gc_mN 260) (gc_mN 260)] [2024, 153, 2022, 2023] (by decide +kernel) (by decide +kernel)
  exact ⟨h _ List.mem_cons_self, h _ (List.mem_cons_of_mem _ List.mem_cons_self), by decide +kernel, by decide +kernel, by decide +kernel, by decide +kernel, by decide +kernel, fun h => absurd h (by decide +kernel), fun _ => ⟨h _ (List.mem_cons_of_mem _ (List.mem_cons_of_mem _ List.mem_cons_self)), h _ (List.mem_cons_of_mem _ (List.mem_cons_of_mem _ (List.mem_cons_of_mem _ List.mem_cons_self))), _, rfl, by decide +kernel⟩, fun h => absurd h (by decide +kernel)⟩
theorem gc_e261 : (gc_cd 261).all (gc_okE 261) = true := by decide +kernel
theorem gc_h261 : gc_chain (gc_cd 261) = true := by decide +kernel
theorem gc_M261 : gc_okM 261 := by
  have h := gc_inL [Cond.code (gc_mN 261) (gc_mB 261) (gc_mL 261) (gc_mR 261), Cond.initialized (gc_mN 261).cls, Cond.instanceMethod (gc_mN 261), Cond.selects (gc_mN 261).cls (gc_mN 261) (gc_mN 261)] [2043, 153, 2042, 124] (by decide +kernel) (by decide +kernel)
  exact ⟨h _ List.mem_cons_self, h _ (List.mem_cons_of_mem _ List.mem_cons_self), by decide +kernel, by decide +kernel, by decide +kernel, by decide +kernel, by decide +kernel, fun h => absurd h (by decide +kernel), fun _ => ⟨h _ (List.mem_cons_of_mem _ (List.mem_cons_of_mem _ List.mem_cons_self)), h _ (List.mem_cons_of_mem _ (List.mem_cons_of_mem _ (List.mem_cons_of_mem _ List.mem_cons_self))), _, rfl, by decide +kernel⟩, fun h => absurd h (by decide +kernel)⟩
theorem gc_e262 : (gc_cd 262).all (gc_okE 262) = true := by decide +kernel
theorem gc_h262 : gc_chain (gc_cd 262) = true := by decide +kernel
theorem gc_M262 : gc_okM 262 := by
  have h := gc_inL [Cond.code (gc_mN 262) (gc_mB 262) (gc_mL 262) (gc_mR 262), Cond.initialized (gc_mN 262).cls, Cond.instanceMethod (gc_mN 262), Cond.selects (gc_mN 262).cls (gc_mN 262) (gc_mN 262)] [2036, 153, 2035, 123] (by decide +kernel) (by decide +kernel)
  exact ⟨h _ List.mem_cons_self, h _ (List.mem_cons_of_mem _ List.mem_cons_self), by decide +kernel, by decide +kernel, by decide +kernel, by decide +kernel, by decide +kernel, fun h => absurd h (by decide +kernel), fun _ => ⟨h _ (List.mem_cons_of_mem _ (List.mem_cons_of_mem _ List.mem_cons_self)), h _ (List.mem_cons_of_mem _ (List.mem_cons_of_mem _ (List.mem_cons_of_mem _ List.mem_cons_self))), _, rfl, by decide +kernel⟩, fun h => absurd h (by decide +kernel)⟩
theorem gc_e263 : (gc_cd 263).all (gc_okE 263) = true := by decide +kernel
theorem gc_h263 : gc_chain (gc_cd 263) = true := by decide +kernel
theorem gc_M263 : gc_okM 263 := by
  have h := gc_inL [Cond.code (gc_mN 263) (gc_mB 263) (gc_mL 263) (gc_mR 263), Cond.initialized (gc_mN 263).cls, Cond.static (gc_mN 263)] [2039, 153, 2038] (by decide +kernel) (by decide +kernel)
  exact ⟨h _ List.mem_cons_self, h _ (List.mem_cons_of_mem _ List.mem_cons_self), by decide +kernel, by decide +kernel, by decide +kernel, by decide +kernel, by decide +kernel, fun _ => h _ (List.mem_cons_of_mem _ (List.mem_cons_of_mem _ List.mem_cons_self)), fun h => absurd h (by decide +kernel), fun h => absurd h (by decide +kernel)⟩
