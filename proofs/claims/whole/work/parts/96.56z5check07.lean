/-! The checks, by program. -/
theorem gc_e172 : (gc_cd 172).all (gc_okE 172) = true := by decide +kernel
theorem gc_h172 : gc_chain (gc_cd 172) = true := by decide +kernel
theorem gc_M172 : gc_okM 172 := by
  have h := gc_inL [Cond.initialized (gc_mN 172).cls, Cond.instanceMethod (gc_mN 172)] [153, 1431] (by decide +kernel) (by decide +kernel)
  exact ⟨List.mem_filter.mpr ⟨List.mem_append_right _ (List.mem_append_right _ (List.mem_append_right _ (List.mem_append_right _ (List.mem_append_right _ (List.mem_append_right _ (List.mem_append_left _ (List.mem_of_getElem? (l := tables_1_6) (i := 95) rfl))))))), rfl⟩, h _ List.mem_cons_self, by decide +kernel, by decide +kernel, by decide +kernel, by decide +kernel, by decide +kernel, fun h => absurd h (by decide +kernel), fun h => absurd h (by decide +kernel), fun _ => ⟨by decide +kernel, h _ (List.mem_cons_of_mem _ List.mem_cons_self), by decide +kernel⟩⟩
theorem gc_e173 : (gc_cd 173).all (gc_okE 173) = true := by decide +kernel
theorem gc_h173 : gc_chain (gc_cd 173) = true := by decide +kernel
theorem gc_M173 : gc_okM 173 := by
  have h := gc_inL [Cond.code (gc_mN 173) (gc_mB 173) (gc_mL 173) (gc_mR 173), Cond.initialized (gc_mN 173).cls, Cond.instanceMethod (gc_mN 173), Cond.selects (gc_mN 173).cls (gc_mN 173) (gc_mN 173)] [1699, 153, 1697, 1698] (by decide +kernel) (by decide +kernel)
  exact ⟨h _ List.mem_cons_self, h _ (List.mem_cons_of_mem _ List.mem_cons_self), by decide +kernel, by decide +kernel, by decide +kernel, by decide +kernel, by decide +kernel, fun h => absurd h (by decide +kernel), fun _ => ⟨h _ (List.mem_cons_of_mem _ (List.mem_cons_of_mem _ List.mem_cons_self)), h _ (List.mem_cons_of_mem _ (List.mem_cons_of_mem _ (List.mem_cons_of_mem _ List.mem_cons_self))), _, rfl, by decide +kernel⟩, fun h => absurd h (by decide +kernel)⟩
theorem gc_e174 : (gc_cd 174).all (gc_okE 174) = true := by decide +kernel
theorem gc_h174 : gc_chain (gc_cd 174) = true := by decide +kernel
theorem gc_M174 : gc_okM 174 := by
  have h := gc_inL [Cond.code (gc_mN 174) (gc_mB 174) (gc_mL 174) (gc_mR 174), Cond.initialized (gc_mN 174).cls, Cond.instanceMethod (gc_mN 174), Cond.selects (gc_mN 174).cls (gc_mN 174) (gc_mN 174)] [1703, 153, 1702, 66] (by decide +kernel) (by decide +kernel)
  exact ⟨h _ List.mem_cons_self, h _ (List.mem_cons_of_mem _ List.mem_cons_self), by decide +kernel, by decide +kernel, by decide +kernel, by decide +kernel, by decide +kernel, fun h => absurd h (by decide +kernel), fun _ => ⟨h _ (List.mem_cons_of_mem _ (List.mem_cons_of_mem _ List.mem_cons_self)), h _ (List.mem_cons_of_mem _ (List.mem_cons_of_mem _ (List.mem_cons_of_mem _ List.mem_cons_self))), _, rfl, by decide +kernel⟩, fun h => absurd h (by decide +kernel)⟩
theorem gc_e175 : (gc_cd 175).all (gc_okE 175) = true := by decide +kernel
theorem gc_h175 : gc_chain (gc_cd 175) = true := by decide +kernel
theorem gc_M175 : gc_okM 175 := by
  have h := gc_inL [Cond.code (gc_mN 175) (gc_mB 175) (gc_mL 175) (gc_mR 175), Cond.initialized (gc_mN 175).cls, Cond.instanceMethod (gc_mN 175), Cond.selects (gc_mN 175).cls (gc_mN 175) (gc_mN 175)] [1707, 153, 1705, 1706] (by decide +kernel) (by decide +kernel)
  exact ⟨h _ List.mem_cons_self, h _ (List.mem_cons_of_mem _ List.mem_cons_self), by decide +kernel, by decide +kernel, by decide +kernel, by decide +kernel, by decide +kernel, fun h => absurd h (by decide +kernel), fun _ => ⟨h _ (List.mem_cons_of_mem _ (List.mem_cons_of_mem _ List.mem_cons_self)), h _ (List.mem_cons_of_mem _ (List.mem_cons_of_mem _ (List.mem_cons_of_mem _ List.mem_cons_self))), _, rfl, by decide +kernel⟩, fun h => absurd h (by decide +kernel)⟩
theorem gc_e176 : (gc_cd 176).all (gc_okE 176) = true := by decide +kernel
theorem gc_h176 : gc_chain (gc_cd 176) = true := by decide +kernel
theorem gc_M176 : gc_okM 176 := by
  have h := gc_inL [Cond.code (gc_mN 176) (gc_mB 176) (gc_mL 176) (gc_mR 176), Cond.initialized (gc_mN 176).cls, Cond.instanceMethod (gc_mN 176), Cond.selects (gc_mN 176).cls (gc_mN 176) (gc_mN 176)] [1723, 153, 1722, 69] (by decide +kernel) (by decide +kernel)
  exact ⟨h _ List.mem_cons_self, h _ (List.mem_cons_of_mem _ List.mem_cons_self), by decide +kernel, by decide +kernel, by decide +kernel, by decide +kernel, by decide +kernel, fun h => absurd h (by decide +kernel), fun _ => ⟨h _ (List.mem_cons_of_mem _ (List.mem_cons_of_mem _ List.mem_cons_self)), h _ (List.mem_cons_of_mem _ (List.mem_cons_of_mem _ (List.mem_cons_of_mem _ List.mem_cons_self))), _, rfl, by decide +kernel⟩, fun h => absurd h (by decide +kernel)⟩
