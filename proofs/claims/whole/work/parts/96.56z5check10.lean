/-! The checks, by program. -/
theorem gc_e199 : (gc_cd 199).all (gc_okE 199) = true := by decide +kernel
theorem gc_h199 : gc_chain (gc_cd 199) = true := by decide +kernel
theorem gc_M199 : gc_okM 199 := by
  have h := gc_inL [Cond.code (gc_mN 199) (gc_mB 199) (gc_mL 199) (gc_mR 199), Cond.initialized (gc_mN 199).cls, Cond.instanceMethod (gc_mN 199), Cond.selects (gc_mN 199).cls (gc_mN 199) (gc_mN 199)] [1785, 153, 1784, 83] (by decide +kernel) (by decide +kernel)
  exact ⟨h _ List.mem_cons_self, h _ (List.mem_cons_of_mem _ List.mem_cons_self), by decide +kernel, by decide +kernel, by decide +kernel, by decide +kernel, by decide +kernel, fun h => absurd h (by decide +kernel), fun _ => ⟨h _ (List.mem_cons_of_mem _ (List.mem_cons_of_mem _ List.mem_cons_self)), h _ (List.mem_cons_of_mem _ (List.mem_cons_of_mem _ (List.mem_cons_of_mem _ List.mem_cons_self))), _, rfl, by decide +kernel⟩, fun h => absurd h (by decide +kernel)⟩
theorem gc_e200 : (gc_cd 200).all (gc_okE 200) = true := by decide +kernel
theorem gc_h200 : gc_chain (gc_cd 200) = true := by decide +kernel
theorem gc_M200 : gc_okM 200 := by
  have h := gc_inL [Cond.code (gc_mN 200) (gc_mB 200) (gc_mL 200) (gc_mR 200), Cond.initialized (gc_mN 200).cls, Cond.instanceMethod (gc_mN 200), Cond.selects (gc_mN 200).cls (gc_mN 200) (gc_mN 200)] [1753, 153, 1752, 75] (by decide +kernel) (by decide +kernel)
  exact ⟨h _ List.mem_cons_self, h _ (List.mem_cons_of_mem _ List.mem_cons_self), by decide +kernel, by decide +kernel, by decide +kernel, by decide +kernel, by decide +kernel, fun h => absurd h (by decide +kernel), fun _ => ⟨h _ (List.mem_cons_of_mem _ (List.mem_cons_of_mem _ List.mem_cons_self)), h _ (List.mem_cons_of_mem _ (List.mem_cons_of_mem _ (List.mem_cons_of_mem _ List.mem_cons_self))), _, rfl, by decide +kernel⟩, fun h => absurd h (by decide +kernel)⟩
theorem gc_e201 : (gc_cd 201).all (gc_okE 201) = true := by decide +kernel
theorem gc_h201 : gc_chain (gc_cd 201) = true := by decide +kernel
theorem gc_M201 : gc_okM 201 := by
  have h := gc_inL [Cond.code (gc_mN 201) (gc_mB 201) (gc_mL 201) (gc_mR 201), Cond.initialized (gc_mN 201).cls, Cond.instanceMethod (gc_mN 201), Cond.selects (gc_mN 201).cls (gc_mN 201) (gc_mN 201)] [1781, 153, 1780, 82] (by decide +kernel) (by decide +kernel)
  exact ⟨h _ List.mem_cons_self, h _ (List.mem_cons_of_mem _ List.mem_cons_self), by decide +kernel, by decide +kernel, by decide +kernel, by decide +kernel, by decide +kernel, fun h => absurd h (by decide +kernel), fun _ => ⟨h _ (List.mem_cons_of_mem _ (List.mem_cons_of_mem _ List.mem_cons_self)), h _ (List.mem_cons_of_mem _ (List.mem_cons_of_mem _ (List.mem_cons_of_mem _ List.mem_cons_self))), _, rfl, by decide +kernel⟩, fun h => absurd h (by decide +kernel)⟩
theorem gc_e202 : (gc_cd 202).all (gc_okE 202) = true := by decide +kernel
theorem gc_h202 : gc_chain (gc_cd 202) = true := by decide +kernel
theorem gc_M202 : gc_okM 202 := by
  have h := gc_inL [Cond.code (gc_mN 202) (gc_mB 202) (gc_mL 202) (gc_mR 202), Cond.initialized (gc_mN 202).cls, Cond.instanceMethod (gc_mN 202), Cond.selects (gc_mN 202).cls (gc_mN 202) (gc_mN 202)] [1797, 153, 1796, 86] (by decide +kernel) (by decide +kernel)
  exact ⟨h _ List.mem_cons_self, h _ (List.mem_cons_of_mem _ List.mem_cons_self), by decide +kernel, by decide +kernel, by decide +kernel, by decide +kernel, by decide +kernel, fun h => absurd h (by decide +kernel), fun _ => ⟨h _ (List.mem_cons_of_mem _ (List.mem_cons_of_mem _ List.mem_cons_self)), h _ (List.mem_cons_of_mem _ (List.mem_cons_of_mem _ (List.mem_cons_of_mem _ List.mem_cons_self))), _, rfl, by decide +kernel⟩, fun h => absurd h (by decide +kernel)⟩
theorem gc_e203 : (gc_cd 203).all (gc_okE 203) = true := by decide +kernel
theorem gc_h203 : gc_chain (gc_cd 203) = true := by decide +kernel
theorem gc_M203 : gc_okM 203 := by
  have h := gc_inL [Cond.code (gc_mN 203) (gc_mB 203) (gc_mL 203) (gc_mR 203), Cond.initialized (gc_mN 203).cls, Cond.instanceMethod (gc_mN 203), Cond.selects (gc_mN 203).cls (gc_mN 203) (gc_mN 203)] [1801, 153, 1800, 87] (by decide +kernel) (by decide +kernel)
  exact ⟨h _ List.mem_cons_self, h _ (List.mem_cons_of_mem _ List.mem_cons_self), by decide +kernel, by decide +kernel, by decide +kernel, by decide +kernel, by decide +kernel, fun h => absurd h (by decide +kernel), fun _ => ⟨h _ (List.mem_cons_of_mem _ (List.mem_cons_of_mem _ List.mem_cons_self)), h _ (List.mem_cons_of_mem _ (List.mem_cons_of_mem _ (List.mem_cons_of_mem _ List.mem_cons_self))), _, rfl, by decide +kernel⟩, fun h => absurd h (by decide +kernel)⟩
theorem gc_e204 : (gc_cd 204).all (gc_okE 204) = true := by decide +kernel
theorem gc_h204 : gc_chain (gc_cd 204) = true := by decide +kernel
theorem gc_M204 : gc_okM 204 := by
  have h := gc_inL [Cond.code (gc_mN 204) (gc_mB 204) (gc_mL 204) (gc_mR 204), Cond.initialized (gc_mN 204).cls, Cond.instanceMethod (gc_mN 204), Cond.selects (gc_mN 204).cls (gc_mN 204) (gc_mN 204)] [1813, 153, 1812, 90] (by decide +kernel) (by decide +kernel)
  exact ⟨h _ List.mem_cons_self, h _ (List.mem_cons_of_mem _ List.mem_cons_self), by decide +kernel, by decide +kernel, by decide +kernel, by decide +kernel, by decide +kernel, fun h => absurd h (by decide +kernel), fun _ => ⟨h _ (List.mem_cons_of_mem _ (List.mem_cons_of_mem _ List.mem_cons_self)), h _ (List.mem_cons_of_mem _ (List.mem_cons_of_mem _ (List.mem_cons_of_mem _ List.mem_cons_self))), _, rfl, by decide +kernel⟩, fun h => absurd h (by decide +kernel)⟩
theorem gc_e205 : (gc_cd 205).all (gc_okE 205) = true := by decide +kernel
theorem gc_h205 : gc_chain (gc_cd 205) = true := by decide +kernel
theorem gc_M205 : gc_okM 205 := by
  have h := gc_inL [Cond.code (gc_mN 205) (gc_mB 205) (gc_mL 205) (gc_mR 205), Cond.initialized (gc_mN 205).cls, Cond.instanceMethod (gc_mN 205), Cond.selects (gc_mN 205).cls (gc_mN 205) (gc_mN 205)] [1821, 153, 1820, 92] (by decide +kernel) (by decide +kernel)
  exact ⟨h _ List.mem_cons_self, h _ (List.mem_cons_of_mem _ List.mem_cons_self), by decide +kernel, by decide +kernel, by decide +kernel, by decide +kernel, by decide +kernel, fun h => absurd h (by decide +kernel), fun _ => ⟨h _ (List.mem_cons_of_mem _ (List.mem_cons_of_mem _ List.mem_cons_self)), h _ (List.mem_cons_of_mem _ (List.mem_cons_of_mem _ (List.mem_cons_of_mem _ List.mem_cons_self))), _, rfl, by decide +kernel⟩, fun h => absurd h (by decide +kernel)⟩
theorem gc_e206 : (gc_cd 206).all (gc_okE 206) = true := by decide +kernel
theorem gc_h206 : gc_chain (gc_cd 206) = true := by decide +kernel
theorem gc_M206 : gc_okM 206 := by
  have h := gc_inL [Cond.code (gc_mN 206) (gc_mB 206) (gc_mL 206) (gc_mR 206), Cond.initialized (gc_mN 206).cls, Cond.instanceMethod (gc_mN 206), Cond.selects (gc_mN 206).cls (gc_mN 206) (gc_mN 206)] [1805, 153, 1804, 88] (by decide +kernel) (by decide +kernel)
  exact ⟨h _ List.mem_cons_self, h _ (List.mem_cons_of_mem _ List.mem_cons_self), by decide +kernel, by decide +kernel, by decide +kernel, by decide +kernel, by decide +kernel, fun h => absurd h (by decide +kernel), fun _ => ⟨h _ (List.mem_cons_of_mem _ (List.mem_cons_of_mem _ List.mem_cons_self)), h _ (List.mem_cons_of_mem _ (List.mem_cons_of_mem _ (List.mem_cons_of_mem _ List.mem_cons_self))), _, rfl, by decide +kernel⟩, fun h => absurd h (by decide +kernel)⟩
