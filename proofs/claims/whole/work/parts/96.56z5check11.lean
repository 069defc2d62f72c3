/-! The checks, by program. -/
theorem gc_e207 : (gc_cd 207).all (gc_okE 207) = true := by decide +kernel
theorem gc_h207 : gc_chain (gc_cd 207) = true := by decide +kernel
theorem gc_M207 : gc_okM 207 := by
  have h := gc_inL [Cond.code (gc_mN 207) (gc_mB 207) (gc_mL 207) (gc_mR 207), Cond.initialized (gc_mN 207).cls, Cond.instanceMethod (gc_mN 207), Cond.selects (gc_mN 207).cls (gc_mN 207) (gc_mN 207)] [1809, 153, 1808, 89] (by decide +kernel) (by decide +kernel)
  exact ⟨h _ List.mem_cons_self, h _ (List.mem_cons_of_mem _ List.mem_cons_self), by decide +kernel, by decide +kernel, by decide +kernel, by decide +kernel, by decide +kernel, fun h => absurd h (by decide +kernel), fun _ => ⟨h _ (List.mem_cons_of_mem _ (List.mem_cons_of_mem _ List.mem_cons_self)), h _ (List.mem_cons_of_mem _ (List.mem_cons_of_mem _ (List.mem_cons_of_mem _ List.mem_cons_self))), _, rfl, by decide +kernel⟩, fun h => absurd h (by decide +kernel)⟩
theorem gc_e208 : (gc_cd 208).all (gc_okE 208) = true := by decide +kernel
theorem gc_h208 : gc_chain (gc_cd 208) = true := by decide +kernel
theorem gc_M208 : gc_okM 208 := by
  have h := gc_inL [Cond.code (gc_mN 208) (gc_mB 208) (gc_mL 208) (gc_mR 208), Cond.initialized (gc_mN 208).cls, Cond.instanceMethod (gc_mN 208), Cond.selects (gc_mN 208).cls (gc_mN 208) (gc_mN 208)] [1817, 153, 1816, 91] (by decide +kernel) (by decide +kernel)
  exact ⟨h _ List.mem_cons_self, h _ (List.mem_cons_of_mem _ List.mem_cons_self), by decide +kernel, by decide +kernel, by decide +kernel, by decide +kernel, by decide +kernel, fun h => absurd h (by decide +kernel), fun _ => ⟨h _ (List.mem_cons_of_mem _ (List.mem_cons_of_mem _ List.mem_cons_self)), h _ (List.mem_cons_of_mem _ (List.mem_cons_of_mem _ (List.mem_cons_of_mem _ List.mem_cons_self))), _, rfl, by decide +kernel⟩, fun h => absurd h (by decide +kernel)⟩
theorem gc_e209 : (gc_cd 209).all (gc_okE 209) = true := by decide +kernel
theorem gc_h209 : gc_chain (gc_cd 209) = true := by decide +kernel
theorem gc_M209 : gc_okM 209 := by
  have h := gc_inL [Cond.code (gc_mN 209) (gc_mB 209) (gc_mL 209) (gc_mR 209), Cond.initialized (gc_mN 209).cls, Cond.static (gc_mN 209)] [1832, 153, 1831] (by decide +kernel) (by decide +kernel)
  exact ⟨h _ List.mem_cons_self, h _ (List.mem_cons_of_mem _ List.mem_cons_self), by decide +kernel, by decide +kernel, by decide +kernel, by decide +kernel, by decide +kernel, fun _ => h _ (List.mem_cons_of_mem _ (List.mem_cons_of_mem _ List.mem_cons_self)), fun h => absurd h (by decide +kernel), fun h => absurd h (by decide +kernel)⟩
theorem gc_e210 : (gc_cd 210).all (gc_okE 210) = true := by decide +kernel
theorem gc_h210 : gc_chain (gc_cd 210) = true := by decide +kernel
theorem gc_M210 : gc_okM 210 := by
  have h := gc_inL [Cond.code (gc_mN 210) (gc_mB 210) (gc_mL 210) (gc_mR 210), Cond.initialized (gc_mN 210).cls, Cond.instanceMethod (gc_mN 210), Cond.selects (gc_mN 210).cls (gc_mN 210) (gc_mN 210)] [1836, 153, 1835, 95] (by decide +kernel) (by decide +kernel)
  exact ⟨h _ List.mem_cons_self, h _ (List.mem_cons_of_mem _ List.mem_cons_self), by decide +kernel, by decide +kernel, by decide +kernel, by decide +kernel, by decide +kernel, fun h => absurd h (by decide +kernel), fun _ => ⟨h _ (List.mem_cons_of_mem _ (List.mem_cons_of_mem _ List.mem_cons_self)), h _ (List.mem_cons_of_mem _ (List.mem_cons_of_mem _ (List.mem_cons_of_mem _ List.mem_cons_self))), _, rfl, by decide +kernel⟩, fun h => absurd h (by decide +kernel)⟩
theorem gc_e211 : (gc_cd 211).all (gc_okE 211) = true := by decide +kernel
theorem gc_h211 : gc_chain (gc_cd 211) = true := by decide +kernel
theorem gc_M211 : gc_okM 211 := by
  have h := gc_inL [Cond.code (gc_mN 211) (gc_mB 211) (gc_mL 211) (gc_mR 211), Cond.initialized (gc_mN 211).cls, Cond.instanceMethod (gc_mN 211), Cond.selects (gc_mN 211).cls (gc_mN 211) (gc_mN 211)] [1829, 153, 1828, 94] (by decide +kernel) (by decide +kernel)
  exact ⟨h _ List.mem_cons_self, h _ (List.mem_cons_of_mem _ List.mem_cons_self), by decide +kernel, by decide +kernel, by decide +kernel, by decide +kernel, by decide +kernel, fun h => absurd h (by decide +kernel), fun _ => ⟨h _ (List.mem_cons_of_mem _ (List.mem_cons_of_mem _ List.mem_cons_self)), h _ (List.mem_cons_of_mem _ (List.mem_cons_of_mem _ (List.mem_cons_of_mem _ List.mem_cons_self))), _, rfl, by decide +kernel⟩, fun h => absurd h (by decide +kernel)⟩
theorem gc_e212 : (gc_cd 212).all (gc_okE 212) = true := by decide +kernel
theorem gc_h212 : gc_chain (gc_cd 212) = true := by decide +kernel
theorem gc_M212 : gc_okM 212 := by
  have h := gc_inL [Cond.code (gc_mN 212) (gc_mB 212) (gc_mL 212) (gc_mR 212), Cond.initialized (gc_mN 212).cls, Cond.static (gc_mN 212)] [1851, 153, 1850] (by decide +kernel) (by decide +kernel)
  exact ⟨h _ List.mem_cons_self, h _ (List.mem_cons_of_mem _ List.mem_cons_self), by decide +kernel, by decide +kernel, by decide +kernel, by decide +kernel, by decide +kernel, fun _ => h _ (List.mem_cons_of_mem _ (List.mem_cons_of_mem _ List.mem_cons_self)), fun h => absurd h (by decide +kernel), fun h => absurd h (by decide +kernel)⟩
theorem gc_e213 : (gc_cd 213).all (gc_okE 213) = true := by decide +kernel
theorem gc_h213 : gc_chain (gc_cd 213) = true := by decide +kernel
theorem gc_M213 : gc_okM 213 := by
  have h := gc_inL [Cond.code (gc_mN 213) (gc_mB 213) (gc_mL 213) (gc_mR 213), Cond.initialized (gc_mN 213).cls, Cond.static (gc_mN 213)] [1934, 153, 1933] (by decide +kernel) (by decide +kernel)
  exact ⟨h _ List.mem_cons_self, h _ (List.mem_cons_of_mem _ List.mem_cons_self), by decide +kernel, by decide +kernel, by decide +kernel, by decide +kernel, by decide +kernel, fun _ => h _ (List.mem_cons_of_mem _ (List.mem_cons_of_mem _ List.mem_cons_self)), fun h => absurd h (by decide +kernel), fun h => absurd h (by decide +kernel)⟩
theorem gc_e214 : (gc_cd 214).all (gc_okE 214) = true := by decide +kernel
theorem gc_h214 : gc_chain (gc_cd 214) = true := by decide +kernel
theorem gc_M214 : gc_okM 214 := by
  have h := gc_inL [Cond.code (gc_mN 214) (gc_mB 214) (gc_mL 214) (gc_mR 214), Cond.initialized (gc_mN 214).cls, Cond.static (gc_mN 214)] [1937, 153, 1936] (by decide +kernel) (by decide +kernel)
  exact ⟨h _ List.mem_cons_self, h _ (List.mem_cons_of_mem _ List.mem_cons_self), by decide +kernel, by decide +kernel, by decide +kernel, by decide +kernel, by decide +kernel, fun _ => h _ (List.mem_cons_of_mem _ (List.mem_cons_of_mem _ List.mem_cons_self)), fun h => absurd h (by decide +kernel), fun h => absurd h (by decide +kernel)⟩
theorem gc_e215 : (gc_cd 215).all (gc_okE 215) = true := by decide +kernel
theorem gc_h215 : gc_chain (gc_cd 215) = true := by decide +kernel
theorem gc_M215 : gc_okM 215 := by
  have h := gc_inL [Cond.code (gc_mN 215) (gc_mB 215) (gc_mL 215) (gc_mR 215), Cond.initialized (gc_mN 215).cls, Cond.static (gc_mN 215)] [1948, 153, 1947] (by decide +kernel) (by decide +kernel)
  exact ⟨h _ List.mem_cons_self, h _ (List.mem_cons_of_mem _ List.mem_cons_self), by decide +kernel, by decide +kernel, by decide +kernel, by decide +kernel, by decide +kernel, fun _ => h _ (List.mem_cons_of_mem _ (List.mem_cons_of_mem _ List.mem_cons_self)), fun h => absurd h (by decide +kernel), fun h => absurd h (by decide +kernel)⟩
theorem gc_e216 : (gc_cd 216).all (gc_okE 216) = true := by decide +kernel
theorem gc_h216 : gc_chain (gc_cd 216) = true := by decide +kernel
theorem gc_M216 : gc_okM 216 := by
  have h := gc_inL [Cond.code (gc_mN 216) (gc_mB 216) (gc_mL 216) (gc_mR 216), Cond.initialized (gc_mN 216).cls, Cond.instanceMethod (gc_mN 216), Cond.selects (gc_mN 216).cls (gc_mN 216) (gc_mN 216)] [1887, 153, 1886, 99] (by decide +kernel) (by decide +kernel)
  exact ⟨h _ List.mem_cons_self, h _ (List.mem_cons_of_mem _ List.mem_cons_self), by decide +kernel, by decide +kernel, by decide +kernel, by decide +kernel, by decide +kernel, fun h => absurd h (by decide +kernel), fun _ => ⟨h _ (List.mem_cons_of_mem _ (List.mem_cons_of_mem _ List.mem_cons_self)), h _ (List.mem_cons_of_mem _ (List.mem_cons_of_mem _ (List.mem_cons_of_mem _ List.mem_cons_self))), _, rfl, by decide +kernel⟩, fun h => absurd h (by decide +kernel)⟩
theorem gc_e217 : (gc_cd 217).all (gc_okE 217) = true := by decide +kernel
theorem gc_h217 : gc_chain (gc_cd 217) = true := by decide +kernel
theorem gc_M217 : gc_okM 217 := by
  have h := gc_inL [Cond.code (gc_mN 217) (gc_mB 217) (gc_mL 217) (gc_mR 217), Cond.initialized (gc_mN 217).cls, Cond.instanceMethod (gc_mN 217), Cond.selects (gc_mN 217).cls (gc_mN 217) (gc_mN 217)] [1891, 153, 1890, 100] (by decide +kernel) (by decide +kernel)
  exact ⟨h _ List.mem_cons_self, h _ (List.mem_cons_of_mem _ List.mem_cons_self), by decide +kernel, by decide +kernel, by decide +kernel, by decide +kernel, by decide +kernel, fun h => absurd h (by decide +kernel), fun _ => ⟨h _ (List.mem_cons_of_mem _ (List.mem_cons_of_mem _ List.mem_cons_self)), h _ (List.mem_cons_of_mem _ (List.mem_cons_of_mem _ (List.mem_cons_of_mem _ List.mem_cons_self))), _, rfl, by decide +kernel⟩, fun h => absurd h (by decide +kernel)⟩
theorem gc_e218 : (gc_cd 218).all (gc_okE 218) = true := by decide +kernel
theorem gc_h218 : gc_chain (gc_cd 218) = true := by decide +kernel
theorem gc_M218 : gc_okM 218 := by
  have h := gc_inL [Cond.code (gc_mN 218) (gc_mB 218) (gc_mL 218) (gc_mR 218), Cond.initialized (gc_mN 218).cls, Cond.instanceMethod (gc_mN 218), Cond.selects (gc_mN 218).cls (gc_mN 218) (gc_mN 218)] [1895, 153, 1894, 101] (by decide +kernel) (by decide +kernel)
  exact ⟨h _ List.mem_cons_self, h _ (List.mem_cons_of_mem _ List.mem_cons_self), by decide +kernel, by decide +kernel, by decide +kernel, by decide +kernel, by decide +kernel, fun h => absurd h (by decide +kernel), fun _ => ⟨h _ (List.mem_cons_of_mem _ (List.mem_cons_of_mem _ List.mem_cons_self)), h _ (List.mem_cons_of_mem _ (List.mem_cons_of_mem _ (List.mem_cons_of_mem _ List.mem_cons_self))), _, rfl, by decide +kernel⟩, fun h => absurd h (by decide +kernel)⟩
theorem gc_e219 : (gc_cd 219).all (gc_okE 219) = true := by decide +kernel
theorem gc_h219 : gc_chain (gc_cd 219) = true := by decide +kernel
theorem gc_M219 : gc_okM 219 := by
  have h := gc_inL [Cond.code (gc_mN 219) (gc_mB 219) (gc_mL 219) (gc_mR 219), Cond.initialized (gc_mN 219).cls, Cond.instanceMethod (gc_mN 219), Cond.selects (gc_mN 219).cls (gc_mN 219) (gc_mN 219)] [1848, 153, 1847, 96] (by decide +kernel) (by decide +kernel)
  exact ⟨h _ List.mem_cons_self, h _ (List.mem_cons_of_mem _ List.mem_cons_self), by decide +kernel, by decide +kernel, by decide +kernel, by decide +kernel, by decide +kernel, fun h => absurd h (by decide +kernel), fun _ => ⟨h _ (List.mem_cons_of_mem _ (List.mem_cons_of_mem _ List.mem_cons_self)), h _ (List.mem_cons_of_mem _ (List.mem_cons_of_mem _ (List.mem_cons_of_mem _ List.mem_cons_self))), _, rfl, by decide +kernel⟩, fun h => absurd h (by decide +kernel)⟩
theorem gc_e220 : (gc_cd 220).all (gc_okE 220) = true := by decide +kernel
theorem gc_h220 : gc_chain (gc_cd 220) = true := by decide +kernel
theorem gc_M220 : gc_okM 220 := by
  have h := gc_inL [Cond.code (gc_mN 220) (gc_mB 220) (gc_mL 220) (gc_mR 220), Cond.initialized (gc_mN 220).cls, Cond.instanceMethod (gc_mN 220), Cond.selects (gc_mN 220).cls (gc_mN 220) (gc_mN 220)] [1875, 153, 1874, 97] (by decide +kernel) (by decide +kernel)
  exact ⟨h _ List.mem_cons_self, h _ (List.mem_cons_of_mem _ List.mem_cons_self), by decide +kernel, by decide +kernel, by decide +kernel, by decide +kernel, by decide +kernel, fun h => absurd h (by decide +kernel), fun _ => ⟨h _ (List.mem_cons_of_mem _ (List.mem_cons_of_mem _ List.mem_cons_self)), h _ (List.mem_cons_of_mem _ (List.mem_cons_of_mem _ (List.mem_cons_of_mem _ List.mem_cons_self))), _, rfl, by decide +kernel⟩, fun h => absurd h (by decide +kernel)⟩
theorem gc_e221 : (gc_cd 221).all (gc_okE 221) = true := by decide +kernel
theorem gc_h221 : gc_chain (gc_cd 221) = true := by decide +kernel
theorem gc_M221 : gc_okM 221 := by
  have h := gc_inL [Cond.code (gc_mN 221) (gc_mB 221) (gc_mL 221) (gc_mR 221), Cond.initialized (gc_mN 221).cls, Cond.instanceMethod (gc_mN 221), Cond.selects (gc_mN 221).cls (gc_mN 221) (gc_mN 221)] [1883, 153, 1882, 98] (by decide +kernel) (by decide +kernel)
  exact ⟨h _ List.mem_cons_self, h _ (List.mem_cons_of_mem _ List.mem_cons_self), by decide +kernel, by decide +kernel, by decide +kernel, by decide +kernel, by decide +kernel, fun h => absurd h (by decide +kernel), fun _ => ⟨h _ (List.mem_cons_of_mem _ (List.mem_cons_of_mem _ List.mem_cons_self)), h _ (List.mem_cons_of_mem _ (List.mem_cons_of_mem _ (List.mem_cons_of_mem _ List.mem_cons_self))), _, rfl, by decide +kernel⟩, fun h => absurd h (by decide +kernel)⟩
theorem gc_e222 : (gc_cd 222).all (gc_okE 222) = true := by decide +kernel
theorem gc_h222 : gc_chain (gc_cd 222) = true := by decide +kernel
theorem gc_M222 : gc_okM 222 := by
  have h := gc_inL [Cond.code (gc_mN 222) (gc_mB 222) (gc_mL 222) (gc_mR 222), Cond.initialized (gc_mN 222).cls, Cond.instanceMethod (gc_mN 222), Cond.selects (gc_mN 222).cls (gc_mN 222) (gc_mN 222)] [1907, 153, 1906, 103] (by decide +kernel) (by decide +kernel)
  exact ⟨h _ List.mem_cons_self, h _ (List.mem_cons_of_mem _ List.mem_cons_self), by decide +kernel, by decide +kernel, by decide +kernel, by decide +kernel, by decide +kernel, fun h => absurd h (by decide +kernel), fun _ => ⟨h _ (List.mem_cons_of_mem _ (List.mem_cons_of_mem _ List.mem_cons_self)), h _ (List.mem_cons_of_mem _ (List.mem_cons_of_mem _ (List.mem_cons_of_mem _ List.mem_cons_self))), _, rfl, by decide +kernel⟩, fun h => absurd h (by decide +kernel)⟩
