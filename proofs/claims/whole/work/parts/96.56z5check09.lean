/-! The checks, by program. -/
theorem gc_e190 : (gc_cd 190).all (gc_okE 190) = true := by decide +kernel
theorem gc_h190 : gc_chain (gc_cd 190) = true := by decide +kernel
theorem gc_M190 : gc_okM 190 := by
  have h := gc_inL [Cond.code (gc_mN 190) (gc_mB 190) (gc_mL 190) (gc_mR 190), Cond.initialized (gc_mN 190).cls, Cond.instanceMethod (gc_mN 190), Cond.selects (gc_mN 190).cls (gc_mN 190) (gc_mN 190)] [1711, 153, 1709, 1710] (by decide +kernel) (by decide +kernel)
  exact ⟨h _ List.mem_cons_self, h _ (List.mem_cons_of_mem _ List.mem_cons_self), by decide +kernel, by decide +kernel, by decide +kernel, by decide +kernel, by decide +kernel, fun h => absurd h (by decide +kernel), fun _ => ⟨h _ (List.mem_cons_of_mem _ (List.mem_cons_of_mem _ List.mem_cons_self)), h _ (List.mem_cons_of_mem _ (List.mem_cons_of_mem _ (List.mem_cons_of_mem _ List.mem_cons_self))), _, rfl, by decide +kernel⟩, fun h => absurd h (by decide +kernel)⟩
theorem gc_e191 : (gc_cd 191).all (gc_okE 191) = true := by decide +kernel
theorem gc_h191 : gc_chain (gc_cd 191) = true := by decide +kernel
theorem gc_M191 : gc_okM 191 := by
  have h := gc_inL [Cond.code (gc_mN 191) (gc_mB 191) (gc_mL 191) (gc_mR 191), Cond.initialized (gc_mN 191).cls, Cond.instanceMethod (gc_mN 191), Cond.selects (gc_mN 191).cls (gc_mN 191) (gc_mN 191)] [1840, 153, 1838, 1839] (by decide +kernel) (by decide +kernel)
  exact ⟨h _ List.mem_cons_self, h _ (List.mem_cons_of_mem _ List.mem_cons_self), by decide +kernel, by decide +kernel, by decide +kernel, by decide +kernel, by decide +kernel, fun h => absurd h (by decide +kernel), fun _ => ⟨h _ (List.mem_cons_of_mem _ (List.mem_cons_of_mem _ List.mem_cons_self)), h _ (List.mem_cons_of_mem _ (List.mem_cons_of_mem _ (List.mem_cons_of_mem _ List.mem_cons_self))), _, rfl, by decide +kernel⟩, fun h => absurd h (by decide +kernel)⟩
theorem gc_e192 : (gc_cd 192).all (gc_okE 192) = true := by decide +kernel
theorem gc_h192 : gc_chain (gc_cd 192) = true := by decide +kernel
theorem gc_M192 : gc_okM 192 := by
  have h := gc_inL [Cond.code (gc_mN 192) (gc_mB 192) (gc_mL 192) (gc_mR 192), Cond.initialized (gc_mN 192).cls, Cond.instanceMethod (gc_mN 192), Cond.selects (gc_mN 192).cls (gc_mN 192) (gc_mN 192)] [1825, 153, 1824, 93] (by decide +kernel) (by decide +kernel)
  exact ⟨h _ List.mem_cons_self, h _ (List.mem_cons_of_mem _ List.mem_cons_self), by decide +kernel, by decide +kernel, by decide +kernel, by decide +kernel, by decide +kernel, fun h => absurd h (by decide +kernel), fun _ => ⟨h _ (List.mem_cons_of_mem _ (List.mem_cons_of_mem _ List.mem_cons_self)), h _ (List.mem_cons_of_mem _ (List.mem_cons_of_mem _ (List.mem_cons_of_mem _ List.mem_cons_self))), _, rfl, by decide +kernel⟩, fun h => absurd h (by decide +kernel)⟩
theorem gc_e193 : (gc_cd 193).all (gc_okE 193) = true := by decide +kernel
theorem gc_h193 : gc_chain (gc_cd 193) = true := by decide +kernel
theorem gc_M193 : gc_okM 193 := by
  have h := gc_inL [Cond.code (gc_mN 193) (gc_mB 193) (gc_mL 193) (gc_mR 193), Cond.initialized (gc_mN 193).cls, Cond.instanceMethod (gc_mN 193), Cond.selects (gc_mN 193).cls (gc_mN 193) (gc_mN 193)] [1745, 153, 1744, 73] (by decide +kernel) (by decide +kernel)
  exact ⟨h _ List.mem_cons_self, h _ (List.mem_cons_of_mem _ List.mem_cons_self), by decide +kernel, by decide +kernel, by decide +kernel, by decide +kernel, by decide +kernel, fun h => absurd h (by decide +kernel), fun _ => ⟨h _ (List.mem_cons_of_mem _ (List.mem_cons_of_mem _ List.mem_cons_self)), h _ (List.mem_cons_of_mem _ (List.mem_cons_of_mem _ (List.mem_cons_of_mem _ List.mem_cons_self))), _, rfl, by decide +kernel⟩, fun h => absurd h (by decide +kernel)⟩
theorem gc_e194 : (gc_cd 194).all (gc_okE 194) = true := by decide +kernel
theorem gc_h194 : gc_chain (gc_cd 194) = true := by decide +kernel
theorem gc_M194 : gc_okM 194 := by
  have h := gc_inL [Cond.code (gc_mN 194) (gc_mB 194) (gc_mL 194) (gc_mR 194), Cond.initialized (gc_mN 194).cls, Cond.instanceMethod (gc_mN 194), Cond.selects (gc_mN 194).cls (gc_mN 194) (gc_mN 194)] [1761, 153, 1760, 77] (by decide +kernel) (by decide +kernel)
  exact ⟨h _ List.mem_cons_self, h _ (List.mem_cons_of_mem _ List.mem_cons_self), by decide +kernel, by decide +kernel, by decide +kernel, by decide +kernel, by decide +kernel, fun h => absurd h (by decide +kernel), fun _ => ⟨h _ (List.mem_cons_of_mem _ (List.mem_cons_of_mem _ List.mem_cons_self)), h _ (List.mem_cons_of_mem _ (List.mem_cons_of_mem _ (List.mem_cons_of_mem _ List.mem_cons_self))), _, rfl, by decide +kernel⟩, fun h => absurd h (by decide +kernel)⟩
theorem gc_e195 : (gc_cd 195).all (gc_okE 195) = true := by decide +kernel
theorem gc_h195 : gc_chain (gc_cd 195) = true := by decide +kernel
theorem gc_M195 : gc_okM 195 := by
  have h := gc_inL [Cond.code (gc_mN 195) (gc_mB 195) (gc_mL 195) (gc_mR 195), Cond.initialized (gc_mN 195).cls, Cond.instanceMethod (gc_mN 195), Cond.selects (gc_mN 195).cls (gc_mN 195) (gc_mN 195)] [1777, 153, 1776, 81] (by decide +kernel) (by decide +kernel)
  exact ⟨h _ List.mem_cons_self, h _ (List.mem_cons_of_mem _ List.mem_cons_self), by decide +kernel, by decide +kernel, by decide +kernel, by decide +kernel, by decide +kernel, fun h => absurd h (by decide +kernel), fun _ => ⟨h _ (List.mem_cons_of_mem _ (List.mem_cons_of_mem _ List.mem_cons_self)), h _ (List.mem_cons_of_mem _ (List.mem_cons_of_mem _ (List.mem_cons_of_mem _ List.mem_cons_self))), _, rfl, by decide +kernel⟩, fun h => absurd h (by decide +kernel)⟩
theorem gc_e196 : (gc_cd 196).all (gc_okE 196) = true := by decide +kernel
theorem gc_h196 : gc_chain (gc_cd 196) = true := by decide +kernel
theorem gc_M196 : gc_okM 196 := by
  have h := gc_inL [Cond.code (gc_mN 196) (gc_mB 196) (gc_mL 196) (gc_mR 196), Cond.initialized (gc_mN 196).cls, Cond.instanceMethod (gc_mN 196), Cond.selects (gc_mN 196).cls (gc_mN 196) (gc_mN 196)] [1789, 153, 1788, 84] (by decide +kernel) (by decide +kernel)
  exact ⟨h _ List.mem_cons_self, h _ (List.mem_cons_of_mem _ List.mem_cons_self), by decide +kernel, by decide +kernel, by decide +kernel, by decide +kernel, by decide +kernel, fun h => absurd h (by decide +kernel), fun _ => ⟨h _ (List.mem_cons_of_mem _ (List.mem_cons_of_mem _ List.mem_cons_self)), h _ (List.mem_cons_of_mem _ (List.mem_cons_of_mem _ (List.mem_cons_of_mem _ List.mem_cons_self))), _, rfl, by decide +kernel⟩, fun h => absurd h (by decide +kernel)⟩
theorem gc_e197 : (gc_cd 197).all (gc_okE 197) = true := by decide +kernel
theorem gc_h197 : gc_chain (gc_cd 197) = true := by decide +kernel
theorem gc_M197 : gc_okM 197 := by
  have h := gc_inL [Cond.code (gc_mN 197) (gc_mB 197) (gc_mL 197) (gc_mR 197), Cond.initialized (gc_mN 197).cls, Cond.instanceMethod (gc_mN 197), Cond.selects (gc_mN 197).cls (gc_mN 197) (gc_mN 197)] [1773, 153, 1772, 80] (by decide +kernel) (by decide +kernel)
  exact ⟨h _ List.mem_cons_self, h _ (List.mem_cons_of_mem _ List.mem_cons_self), by decide +kernel, by decide +kernel, by decide +kernel, by decide +kernel, by decide +kernel, fun h => absurd h (by decide +kernel), fun _ => ⟨h _ (List.mem_cons_of_mem _ (List.mem_cons_of_mem _ List.mem_cons_self)), h _ (List.mem_cons_of_mem _ (List.mem_cons_of_mem _ (List.mem_cons_of_mem _ List.mem_cons_self))), _, rfl, by decide +kernel⟩, fun h => absurd h (by decide +kernel)⟩
theorem gc_e198 : (gc_cd 198).all (gc_okE 198) = true := by decide +kernel
theorem gc_h198 : gc_chain (gc_cd 198) = true := by decide +kernel
theorem gc_M198 : gc_okM 198 := by
  have h := gc_inL [Cond.code (gc_mN 198) (gc_mB 198) (gc_mL 198) (gc_mR 198), Cond.initialized (gc_mN 198).cls, Cond.instanceMethod (gc_mN 198), Cond.selects (gc_mN 198).cls (gc_mN 198) (gc_mN 198)] [1793, 153, 1792, 85] (by decide +kernel) (by decide +kernel)
  exact ⟨h _ List.mem_cons_self, h _ (List.mem_cons_of_mem _ List.mem_cons_self), by decide +kernel, by decide +kernel, by decide +kernel, by decide +kernel, by decide +kernel, fun h => absurd h (by decide +kernel), fun _ => ⟨h _ (List.mem_cons_of_mem _ (List.mem_cons_of_mem _ List.mem_cons_self)), h _ (List.mem_cons_of_mem _ (List.mem_cons_of_mem _ (List.mem_cons_of_mem _ List.mem_cons_self))), _, rfl, by decide +kernel⟩, fun h => absurd h (by decide +kernel)⟩
