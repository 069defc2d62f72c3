/-! The checks, by program. -/
theorem gc_e285 : (gc_cd 285).all (gc_okE 285) = true := by decide +kernel
theorem gc_h285 : gc_chain (gc_cd 285) = true := by decide +kernel
theorem gc_M285 : gc_okM 285 := by
  have h := gc_inL [Cond.code (gc_mN 285) (gc_mB 285) (gc_mL 285) (gc_mR 285), Cond.initialized (gc_mN 285).cls, Cond.instanceMethod (gc_mN 285), Cond.selects (gc_mN 285).cls (gc_mN 285) (gc_mN 285)] [2126, 153, 2124, 2125] (by decide +kernel) (by decide +kernel)
  exact ⟨h _ List.mem_cons_self, h _ (List.mem_cons_of_mem _ List.mem_cons_self), by decide +kernel, by decide +kernel, by decide +kernel, by decide +kernel, by decide +kernel, fun h => absurd h (by decide +kernel), fun _ => ⟨h _ (List.mem_cons_of_mem _ (List.mem_cons_of_mem _ List.mem_cons_self)), h _ (List.mem_cons_of_mem _ (List.mem_cons_of_mem _ (List.mem_cons_of_mem _ List.mem_cons_self))), _, rfl, by decide +kernel⟩, fun h => absurd h (by decide +kernel)⟩
theorem gc_e286 : (gc_cd 286).all (gc_okE 286) = true := by decide +kernel
theorem gc_h286 : gc_chain (gc_cd 286) = true := by decide +kernel
theorem gc_M286 : gc_okM 286 := by
  have h := gc_inL [Cond.code (gc_mN 286) (gc_mB 286) (gc_mL 286) (gc_mR 286), Cond.initialized (gc_mN 286).cls, Cond.static (gc_mN 286)] [2133, 153, 2132] (by decide +kernel) (by decide +kernel)
  exact ⟨h _ List.mem_cons_self, h _ (List.mem_cons_of_mem _ List.mem_cons_self), by decide +kernel, by decide +kernel, by decide +kernel, by decide +kernel, by decide +kernel, fun _ => h _ (List.mem_cons_of_mem _ (List.mem_cons_of_mem _ List.mem_cons_self)), fun h => absurd h (by decide +kernel), fun h => absurd h (by decide +kernel)⟩
theorem gc_e287 : (gc_cd 287).all (gc_okE 287) = true := by decide +kernel
theorem gc_h287 : gc_chain (gc_cd 287) = true := by decide +kernel
theorem gc_M287 : gc_okM 287 := by
  have h := gc_inL [Cond.code (gc_mN 287) (gc_mB 287) (gc_mL 287) (gc_mR 287), Cond.initialized (gc_mN 287).cls, Cond.instanceMethod (gc_mN 287), Cond.selects (gc_mN 287).cls (gc_mN 287) (gc_mN 287)] [2130, 153, 2128, 2129] (by decide +kernel) (by decide +kernel)
  exact ⟨h _ List.mem_cons_self, h _ (List.mem_cons_of_mem _ List.mem_cons_self), by decide +kernel, by decide +kernel, by decide +kernel, by decide +kernel, by decide +kernel, fun h => absurd h (by decide +kernel), fun _ => ⟨h _ (List.mem_cons_of_mem _ (List.mem_cons_of_mem _ List.mem_cons_self)), h _ (List.mem_cons_of_mem _ (List.mem_cons_of_mem _ (List.mem_cons_of_mem _ List.mem_cons_self))), _, rfl, by decide +kernel⟩, fun h => absurd h (by decide +kernel)⟩
theorem gc_e288 : (gc_cd 288).all (gc_okE 288) = true := by decide +kernel
theorem gc_h288 : gc_chain (gc_cd 288) = true := by decide +kernel
theorem gc_M288 : gc_okM 288 := by
  have h := gc_inL [Cond.code (gc_mN 288) (gc_mB 288) (gc_mL 288) (gc_mR 288), Cond.initialized (gc_mN 288).cls, Cond.static (gc_mN 288)] [2143, 153, 2142] (by decide +kernel) (by decide +kernel)
  exact ⟨h _ List.mem_cons_self, h _ (List.mem_cons_of_mem _ List.mem_cons_self), by decide +kernel, by decide +kernel, by decide +kernel, by decide +kernel, by decide +kernel, fun _ => h _ (List.mem_cons_of_mem _ (List.mem_cons_of_mem _ List.mem_cons_self)), fun h => absurd h (by decide +kernel), fun h => absurd h (by decide +kernel)⟩
theorem gc_e289 : (gc_cd 289).all (gc_okE 289) = true := by decide +kernel
theorem gc_h289 : gc_chain (gc_cd 289) = true := by decide +kernel
theorem gc_M289 : gc_okM 289 := by
  have h := gc_inL [Cond.code (gc_mN 289) (gc_mB 289) (gc_mL 289) (gc_mR 289), Cond.initialized (gc_mN 289).cls, Cond.static (gc_mN 289)] [2140, 153, 2139] (by decide +kernel) (by decide +kernel)
  exact ⟨h _ List.mem_cons_self, h _ (List.mem_cons_of_mem _ List.mem_cons_self), by decide +kernel, by decide +kernel, by decide +kernel, by decide +kernel, by decide +kernel, fun _ => h _ (List.mem_cons_of_mem _ (List.mem_cons_of_mem _ List.mem_cons_self)), fun h => absurd h (by decide +kernel), fun h => absurd h (by decide +kernel)⟩
theorem gc_e290 : (gc_cd 290).all (gc_okE 290) = true := by decide +kernel
theorem gc_h290 : gc_chain (gc_cd 290) = true := by decide +kernel
theorem gc_M290 : gc_okM 290 := by
  have h := gc_inL [Cond.code (gc_mN 290) (gc_mB 290) (gc_mL 290) (gc_mR 290), Cond.initialized (gc_mN 290).cls, Cond.instanceMethod (gc_mN 290), Cond.selects (gc_mN 290).cls (gc_mN 290) (gc_mN 290)] [2137, 153, 2135, 2136] (by decide +kernel) (by decide +kernel)
  exact ⟨h _ List.mem_cons_self, h _ (List.mem_cons_of_mem _ List.mem_cons_self), by decide +kernel, by decide +kernel, by decide +kernel, by decide +kernel, by decide +kernel, fun h => absurd h (by decide +kernel), fun _ => ⟨h _ (List.mem_cons_of_mem _ (List.mem_cons_of_mem _ List.mem_cons_self)), h _ (List.mem_cons_of_mem _ (List.mem_cons_of_mem _ (List.mem_cons_of_mem _ List.mem_cons_self))), _, rfl, by decide +kernel⟩, fun h => absurd h (by decide +kernel)⟩
theorem gc_e291 : (gc_cd 291).all (gc_okE 291) = true := by decide +kernel
theorem gc_h291 : gc_chain (gc_cd 291) = true := by decide +kernel
theorem gc_M291 : gc_okM 291 := by
  have h := gc_inL [Cond.code (gc_mN 291) (gc_mB 291) (gc_mL 291) (gc_mR 291), Cond.initialized (gc_mN 291).cls, Cond.instanceMethod (gc_mN 291), Cond.selects (gc_mN 291).cls (gc_mN 291) (gc_mN 291)] [2148, 153, 2146, 2147] (by decide +kernel) (by decide +kernel)
  exact ⟨h _ List.mem_cons_self, h _ (List.mem_cons_of_mem _ List.mem_cons_self), by decide +kernel, by decide +kernel, by decide +kernel, by decide +kernel, by decide +kernel, fun h => absurd h (by decide +kernel), fun _ => ⟨h _ (List.mem_cons_of_mem _ (List.mem_cons_of_mem _ List.mem_cons_self)), h _ (List.mem_cons_of_mem _ (List.mem_cons_of_mem _ (List.mem_cons_of_mem _ List.mem_cons_self))), _, rfl, by decide +kernel⟩, fun h => absurd h (by decide +kernel)⟩
theorem gc_e292 : (gc_cd 292).all (gc_okE 292) = true := by decide +kernel
theorem gc_h292 : gc_chain (gc_cd 292) = true := by decide +kernel
theorem gc_M292 : gc_okM 292 := by
  have h := gc_inL [Cond.code (gc_mN 292) (gc_mB 292) (gc_mL 292) (gc_mR 292), Cond.initialized (gc_mN 292).cls, Cond.instanceMethod (gc_mN 292), Cond.selects (gc_mN 292).cls (gc_mN 292) (gc_mN 292)] [2152, 153, 2150, 2151] (by decide +kernel) (by decide +kernel)
  exact ⟨h _ List.mem_cons_self, h _ (List.mem_cons_of_mem _ List.mem_cons_self), by decide +kernel, by decide +kernel, by decide +kernel, by decide +kernel, by decide +kernel, fun h => absurd h (by decide +kernel), fun _ => ⟨h _ (List.mem_cons_of_mem _ (List.mem_cons_of_mem _ List.mem_cons_self)), h _ (List.mem_cons_of_mem _ (List.mem_cons_of_mem _ (List.mem_cons_of_mem _ List.mem_cons_self))), _, rfl, by decide +kernel⟩, fun h => absurd h (by decide +kernel)⟩
theorem gc_e293 : (gc_cd 293).all (gc_okE 293) = true := by decide +kernel
theorem gc_h293 : gc_chain (gc_cd 293) = true := by decide +kernel
theorem gc_M293 : gc_okM 293 := by
  have h := gc_inL [Cond.code (gc_mN 293) (gc_mB 293) (gc_mL 293) (gc_mR 293), Cond.initialized (gc_mN 293).cls, Cond.instanceMethod (gc_mN 293), Cond.selects (gc_mN 293).cls (gc_mN 293) (gc_mN 293)] [2156, 153, 2154, 2155] (by decide +kernel) (by decide +kernel)
  exact ⟨h _ List.mem_cons_self, h _ (List.mem_cons_of_mem _ List.mem_cons_self), by decide +kernel, by decide +kernel, by decide +kernel, by decide +kernel, by decide +kernel, fun h => absurd h (by decide +kernel), fun _ => ⟨h _ (List.mem_cons_of_mem _ (List.mem_cons_of_mem _ List.mem_cons_self)), h _ (List.mem_cons_of_mem _ (List.mem_cons_of_mem _ (List.mem_cons_of_mem _ List.mem_cons_self))), _, rfl, by decide +kernel⟩, fun h => absurd h (by decide +kernel)⟩
theorem gc_e294 : (gc_cd 294).all (gc_okE 294) = true := by decide +kernel
theorem gc_h294 : gc_chain (gc_cd 294) = true := by decide +kernel
theorem gc_M294 : gc_okM 294 := by
  have h := gc_inL [Cond.code (gc_mN 294) (gc_mB 294) (gc_mL 294) (gc_mR 294), Cond.initialized (gc_mN 294).cls, Cond.static (gc_mN 294)] [1203, 156, 1202] (by decide +kernel) (by decide +kernel)
  exact ⟨h _ List.mem_cons_self, h _ (List.mem_cons_of_mem _ List.mem_cons_self), by decide +kernel, by decide +kernel, by decide +kernel, by decide +kernel, by decide +kernel, fun _ => h _ (List.mem_cons_of_mem _ (List.mem_cons_of_mem _ List.mem_cons_self)), fun h => absurd h (by decide +kernel), fun h => absurd h (by decide +kernel)⟩
theorem gc_e295 : (gc_cd 295).all (gc_okE 295) = true := by decide +kernel
theorem gc_h295 : gc_chain (gc_cd 295) = true := by decide +kernel
theorem gc_M295 : gc_okM 295 := by
  have h := gc_inL [Cond.code (gc_mN 295) (gc_mB 295) (gc_mL 295) (gc_mR 295), Cond.initialized (gc_mN 295).cls, Cond.static (gc_mN 295)] [1094, 155, 1093] (by decide +kernel) (by decide +kernel)
  exact ⟨h _ List.mem_cons_self, h _ (List.mem_cons_of_mem _ List.mem_cons_self), by decide +kernel, by decide +kernel, by decide +kernel, by decide +kernel, by decide +kernel, fun _ => h _ (List.mem_cons_of_mem _ (List.mem_cons_of_mem _ List.mem_cons_self)), fun h => absurd h (by decide +kernel), fun h => absurd h (by decide +kernel)⟩
theorem gc_e296 : (gc_cd 296).all (gc_okE 296) = true := by decide +kernel
theorem gc_h296 : gc_chain (gc_cd 296) = true := by decide +kernel
theorem gc_M296 : gc_okM 296 := by
  have h := gc_inL [Cond.code (gc_mN 296) (gc_mB 296) (gc_mL 296) (gc_mR 296), Cond.initialized (gc_mN 296).cls, Cond.static (gc_mN 296)] [1337, 155, 1336] (by decide +kernel) (by decide +kernel)
  exact ⟨h _ List.mem_cons_self, h _ (List.mem_cons_of_mem _ List.mem_cons_self), by decide +kernel, by decide +kernel, by decide +kernel, by decide +kernel, by decide +kernel, fun _ => h _ (List.mem_cons_of_mem _ (List.mem_cons_of_mem _ List.mem_cons_self)), fun h => absurd h (by decide +kernel), fun h => absurd h (by decide +kernel)⟩
