/-! The checks, by program. -/
theorem gc_e26 : (gc_cd 26).all (gc_okE 26) = true := by decide +kernel
theorem gc_h26 : gc_chain (gc_cd 26) = true := by decide +kernel
theorem gc_M26 : gc_okM 26 := by
  have h := gc_inL [Cond.code (gc_mN 26) (gc_mB 26) (gc_mL 26) (gc_mR 26), Cond.initialized (gc_mN 26).cls, Cond.instanceMethod (gc_mN 26), Cond.selects (gc_mN 26).cls (gc_mN 26) (gc_mN 26)] [1076, 147, 1074, 1075] (by decide +kernel) (by decide +kernel)
  exact ⟨h _ List.mem_cons_self, h _ (List.mem_cons_of_mem _ List.mem_cons_self), by decide +kernel, by decide +kernel, by decide +kernel, by decide +kernel, by decide +kernel, fun h => absurd h (by decide +kernel), fun _ => ⟨h _ (List.mem_cons_of_mem _ (List.mem_cons_of_mem _ List.mem_cons_self)), h _ (List.mem_cons_of_mem _ (List.mem_cons_of_mem _ (List.mem_cons_of_mem _ List.mem_cons_self))), _, rfl, by decide +kernel⟩, fun h => absurd h (by decide +kernel)⟩
theorem gc_e27 : (gc_cd 27).all (gc_okE 27) = true := by decide +kernel
theorem gc_h27 : gc_chain (gc_cd 27) = true := by decide +kernel
theorem gc_M27 : gc_okM 27 := by
  have h := gc_inL [Cond.code (gc_mN 27) (gc_mB 27) (gc_mL 27) (gc_mR 27), Cond.initialized (gc_mN 27).cls, Cond.instanceMethod (gc_mN 27), Cond.selects (gc_mN 27).cls (gc_mN 27) (gc_mN 27)] [825, 147, 823, 824] (by decide +kernel) (by decide +kernel)
  exact ⟨h _ List.mem_cons_self, h _ (List.mem_cons_of_mem _ List.mem_cons_self), by decide +kernel, by decide +kernel, by decide +kernel, by decide +kernel, by decide +kernel, fun h => absurd h (by decide +kernel), fun _ => ⟨h _ (List.mem_cons_of_mem _ (List.mem_cons_of_mem _ List.mem_cons_self)), h _ (List.mem_cons_of_mem _ (List.mem_cons_of_mem _ (List.mem_cons_of_mem _ List.mem_cons_self))), _, rfl, by decide +kernel⟩, fun h => absurd h (by decide +kernel)⟩
theorem gc_e28 : (gc_cd 28).all (gc_okE 28) = true := by decide +kernel
theorem gc_h28 : gc_chain (gc_cd 28) = true := by decide +kernel
theorem gc_M28 : gc_okM 28 := by
  have h := gc_inL [Cond.code (gc_mN 28) (gc_mB 28) (gc_mL 28) (gc_mR 28), Cond.initialized (gc_mN 28).cls, Cond.instanceMethod (gc_mN 28), Cond.selects (gc_mN 28).cls (gc_mN 28) (gc_mN 28)] [833, 147, 831, 832] (by decide +kernel) (by decide +kernel)
  exact ⟨h _ List.mem_cons_self, h _ (List.mem_cons_of_mem _ List.mem_cons_self), by decide +kernel, by decide +kernel, by decide +kernel, by decide +kernel, by decide +kernel, fun h => absurd h (by decide +kernel), fun _ => ⟨h _ (List.mem_cons_of_mem _ (List.mem_cons_of_mem _ List.mem_cons_self)), h _ (List.mem_cons_of_mem _ (List.mem_cons_of_mem _ (List.mem_cons_of_mem _ List.mem_cons_self))), _, rfl, by decide +kernel⟩, fun h => absurd h (by decide +kernel)⟩
theorem gc_e29 : (gc_cd 29).all (gc_okE 29) = true := by decide +kernel
theorem gc_h29 : gc_chain (gc_cd 29) = true := by decide +kernel
theorem gc_M29 : gc_okM 29 := by
  have h := gc_inL [Cond.code (gc_mN 29) (gc_mB 29) (gc_mL 29) (gc_mR 29), Cond.initialized (gc_mN 29).cls, Cond.instanceMethod (gc_mN 29), Cond.selects (gc_mN 29).cls (gc_mN 29) (gc_mN 29)] [892, 147, 890, 891] (by decide +kernel) (by decide +kernel)
  exact ⟨h _ List.mem_cons_self, h _ (List.mem_cons_of_mem _ List.mem_cons_self), by decide +kernel, by decide +kernel, by decide +kernel, by decide +kernel, by decide +kernel, fun h => absurd h (by decide +kernel), fun _ => ⟨h _ (List.mem_cons_of_mem _ (List.mem_cons_of_mem _ List.mem_cons_self)), h _ (List.mem_cons_of_mem _ (List.mem_cons_of_mem _ (List.mem_cons_of_mem _ List.mem_cons_self))), _, rfl, by decide +kernel⟩, fun h => absurd h (by decide +kernel)⟩
theorem gc_e30 : (gc_cd 30).all (gc_okE 30) = true := by decide +kernel
theorem gc_h30 : gc_chain (gc_cd 30) = true := by decide +kernel
theorem gc_M30 : gc_okM 30 := by
  have h := gc_inL [Cond.code (gc_mN 30) (gc_mB 30) (gc_mL 30) (gc_mR 30), Cond.initialized (gc_mN 30).cls, Cond.instanceMethod (gc_mN 30)] [321, 145, 320] (by decide +kernel) (by decide +kernel)
  exact ⟨h _ List.mem_cons_self, h _ (List.mem_cons_of_mem _ List.mem_cons_self), by decide +kernel, by decide +kernel, by decide +kernel, by decide +kernel, by decide +kernel, fun h => absurd h (by decide +kernel), fun h => absurd h (by decide +kernel), fun _ => ⟨by decide +kernel, h _ (List.mem_cons_of_mem _ (List.mem_cons_of_mem _ List.mem_cons_self)), by decide +kernel⟩⟩
theorem gc_e31 : (gc_cd 31).all (gc_okE 31) = true := by decide +kernel
theorem gc_h31 : gc_chain (gc_cd 31) = true := by decide +kernel
theorem gc_M31 : gc_okM 31 := by
  have h := gc_inL [Cond.code (gc_mN 31) (gc_mB 31) (gc_mL 31) (gc_mR 31), Cond.initialized (gc_mN 31).cls, Cond.instanceMethod (gc_mN 31), Cond.selects (gc_mN 31).cls (gc_mN 31) (gc_mN 31)] [791, 145, 789, 790] (by decide +kernel) (by decide +kernel)
  exact ⟨h _ List.mem_cons_self, h _ (List.mem_cons_of_mem _ List.mem_cons_self), by decide +kernel, by decide +kernel, by decide +kernel, by decide +kernel, by decide +kernel, fun h => absurd h (by decide +kernel), fun _ => ⟨h _ (List.mem_cons_of_mem _ (List.mem_cons_of_mem _ List.mem_cons_self)), h _ (List.mem_cons_of_mem _ (List.mem_cons_of_mem _ (List.mem_cons_of_mem _ List.mem_cons_self))), _, rfl, by decide +kernel⟩, fun h => absurd h (by decide +kernel)⟩
theorem gc_e32 : (gc_cd 32).all (gc_okE 32) = true := by decide +kernel
theorem gc_h32 : gc_chain (gc_cd 32) = true := by decide +kernel
theorem gc_M32 : gc_okM 32 := by
  have h := gc_inL [Cond.code (gc_mN 32) (gc_mB 32) (gc_mL 32) (gc_mR 32), Cond.initialized (gc_mN 32).cls, Cond.instanceMethod (gc_mN 32), Cond.selects (gc_mN 32).cls (gc_mN 32) (gc_mN 32)] [807, 145, 806, 5] (by decide +kernel) (by decide +kernel)
  exact ⟨h _ List.mem_cons_self, h _ (List.mem_cons_of_mem _ List.mem_cons_self), by decide +kernel, by decide +kernel, by decide +kernel, by decide +kernel, by decide +kernel, fun h => absurd h (by decide +kernel), fun _ => ⟨h _ (List.mem_cons_of_mem _ (List.mem_cons_of_mem _ List.mem_cons_self)), h _ (List.mem_cons_of_mem _ (List.mem_cons_of_mem _ (List.mem_cons_of_mem _ List.mem_cons_self))), _, rfl, by decide +kernel⟩, fun h => absurd h (by decide +kernel)⟩
theorem gc_e33 : (gc_cd 33).all (gc_okE 33) = true := by decide +kernel
theorem gc_h33 : gc_chain (gc_cd 33) = true := by decide +kernel
theorem gc_M33 : gc_okM 33 := by
  have h := gc_inL [Cond.code (gc_mN 33) (gc_mB 33) (gc_mL 33) (gc_mR 33), Cond.initialized (gc_mN 33).cls, Cond.instanceMethod (gc_mN 33), Cond.selects (gc_mN 33).cls (gc_mN 33) (gc_mN 33)] [837, 145, 836, 6] (by decide +kernel) (by decide +kernel)
  exact ⟨h _ List.mem_cons_self, h _ (List.mem_cons_of_mem _ List.mem_cons_self), by decide +kernel, by decide +kernel, by decide +kernel, by decide +kernel, by decide +kernel, fun h => absurd h (by decide +kernel), fun _ => ⟨h _ (List.mem_cons_of_mem _ (List.mem_cons_of_mem _ List.mem_cons_self)), h _ (List.mem_cons_of_mem _ (List.mem_cons_of_mem _ (List.mem_cons_of_mem _ List.mem_cons_self))), _, rfl, by decide +kernel⟩, fun h => absurd h (by decide +kernel)⟩
theorem gc_e34 : (gc_cd 34).all (gc_okE 34) = true := by decide +kernel
theorem gc_h34 : gc_chain (gc_cd 34) = true := by decide +kernel
theorem gc_M34 : gc_okM 34 := by
  have h := gc_inL [Cond.code (gc_mN 34) (gc_mB 34) (gc_mL 34) (gc_mR 34), Cond.initialized (gc_mN 34).cls, Cond.instanceMethod (gc_mN 34), Cond.selects (gc_mN 34).cls (gc_mN 34) (gc_mN 34)] [803, 145, 802, 4] (by decide +kernel) (by decide +kernel)
  exact ⟨h _ List.mem_cons_self, h _ (List.mem_cons_of_mem _ List.mem_cons_self), by decide +kernel, by decide +kernel, by decide +kernel, by decide +kernel, by decide +kernel, fun h => absurd h (by decide +kernel), fun _ => ⟨h _ (List.mem_cons_of_mem _ (List.mem_cons_of_mem _ List.mem_cons_self)), h _ (List.mem_cons_of_mem _ (List.mem_cons_of_mem _ (List.mem_cons_of_mem _ List.mem_cons_self))), _, rfl, by decide +kernel⟩, fun h => absurd h (by decide +kernel)⟩
theorem gc_e35 : (gc_cd 35).all (gc_okE 35) = true := by decide +kernel
theorem gc_h35 : gc_chain (gc_cd 35) = true := by decide +kernel
theorem gc_M35 : gc_okM 35 := by
  have h := gc_inL [Cond.code (gc_mN 35) (gc_mB 35) (gc_mL 35) (gc_mR 35), Cond.initialized (gc_mN 35).cls, Cond.instanceMethod (gc_mN 35), Cond.selects (gc_mN 35).cls (gc_mN 35) (gc_mN 35)] [841, 145, 840, 7] (by decide +kernel) (by decide +kernel)
  exact ⟨h _ List.mem_cons_self, h _ (List.mem_cons_of_mem _ List.mem_cons_self), by decide +kernel, by decide +kernel, by decide +kernel, by decide +kernel, by decide +kernel, fun h => absurd h (by decide +kernel), fun _ => ⟨h _ (List.mem_cons_of_mem _ (List.mem_cons_of_mem _ List.mem_cons_self)), h _ (List.mem_cons_of_mem _ (List.mem_cons_of_mem _ (List.mem_cons_of_mem _ List.mem_cons_self))), _, rfl, by decide +kernel⟩, fun h => absurd h (by decide +kernel)⟩
theorem gc_e36 : (gc_cd 36).all (gc_okE 36) = true := by decide +kernel
theorem gc_h36 : gc_chain (gc_cd 36) = true := by decide +kernel
theorem gc_M36 : gc_okM 36 := by
  have h := gc_inL [Cond.code (gc_mN 36) (gc_mB 36) (gc_mL 36) (gc_mR 36), Cond.initialized (gc_mN 36).cls, Cond.instanceMethod (gc_mN 36), Cond.selects (gc_mN 36).cls (gc_mN 36) (gc_mN 36)] [864, 145, 863, 10] (by decide +kernel) (by decide +kernel)
  exact ⟨h _ List.mem_cons_self, h _ (List.mem_cons_of_mem _ List.mem_cons_self), by decide +kernel, by decide +kernel, by decide +kernel, by decide +kernel, by decide +kernel, fun h => absurd h (by decide +kernel), fun _ => ⟨h _ (List.mem_cons_of_mem _ (List.mem_cons_of_mem _ List.mem_cons_self)), h _ (List.mem_cons_of_mem _ (List.mem_cons_of_mem _ (List.mem_cons_of_mem _ List.mem_cons_self))), _, rfl, by decide +kernel⟩, fun h => absurd h (by decide +kernel)⟩
theorem gc_e37 : (gc_cd 37).all (gc_okE 37) = true := by decide +kernel
theorem gc_h37 : gc_chain (gc_cd 37) = true := by decide +kernel
theorem gc_M37 : gc_okM 37 := by
  have h := gc_inL [Cond.code (gc_mN 37) (gc_mB 37) (gc_mL 37) (gc_mR 37), Cond.initialized (gc_mN 37).cls, Cond.instanceMethod (gc_mN 37), Cond.selects (gc_mN 37).cls (gc_mN 37) (gc_mN 37)] [845, 145, 844, 8] (by decide +kernel) (by decide +kernel)
  exact ⟨h _ List.mem_cons_self, h _ (List.mem_cons_of_mem _ List.mem_cons_self), by decide +kernel, by decide +kernel, by decide +kernel, by decide +kernel, by decide +kernel, fun h => absurd h (by decide +kernel), fun _ => ⟨h _ (List.mem_cons_of_mem _ (List.mem_cons_of_mem _ List.mem_cons_self)), h _ (List.mem_cons_of_mem _ (List.mem_cons_of_mem _ (List.mem_cons_of_mem _ List.mem_cons_self))), _, rfl, by decide +kernel⟩, fun h => absurd h (by decide +kernel)⟩
theorem gc_e38 : (gc_cd 38).all (gc_okE 38) = true := by decide +kernel
theorem gc_h38 : gc_chain (gc_cd 38) = true := by decide +kernel
theorem gc_M38 : gc_okM 38 := by
  have h := gc_inL [Cond.code (gc_mN 38) (gc_mB 38) (gc_mL 38) (gc_mR 38), Cond.initialized (gc_mN 38).cls, Cond.instanceMethod (gc_mN 38), Cond.selects (gc_mN 38).cls (gc_mN 38) (gc_mN 38)] [868, 145, 867, 11] (by decide +kernel) (by decide +kernel)
  exact ⟨h _ List.mem_cons_self, h _ (List.mem_cons_of_mem _ List.mem_cons_self), by decide +kernel, by decide +kernel, by decide +kernel, by decide +kernel, by decide +kernel, fun h => absurd h (by decide +kernel), fun _ => ⟨h _ (List.mem_cons_of_mem _ (List.mem_cons_of_mem _ List.mem_cons_self)), h _ (List.mem_cons_of_mem _ (List.mem_cons_of_mem _ (List.mem_cons_of_mem _ List.mem_cons_self))), _, rfl, by decide +kernel⟩, fun h => absurd h (by decide +kernel)⟩
theorem gc_e39 : (gc_cd 39).all (gc_okE 39) = true := by decide +kernel
theorem gc_h39 : gc_chain (gc_cd 39) = true := by decide +kernel
theorem gc_M39 : gc_okM 39 := by
  have h := gc_inL [Cond.code (gc_mN 39) (gc_mB 39) (gc_mL 39) (gc_mR 39), Cond.initialized (gc_mN 39).cls, Cond.instanceMethod (gc_mN 39), Cond.selects (gc_mN 39).cls (gc_mN 39) (gc_mN 39)] [872, 145, 871, 12] (by decide +kernel) (by decide +kernel)
  exact ⟨h _ List.mem_cons_self, h _ (List.mem_cons_of_mem _ List.mem_cons_self), by decide +kernel, by decide +kernel, by decide +kernel, by decide +kernel, by decide +kernel, fun h => absurd h (by decide +kernel), fun _ => ⟨h _ (List.mem_cons_of_mem _ (List.mem_cons_of_mem _ List.mem_cons_self)), h _ (List.mem_cons_of_mem _ (List.mem_cons_of_mem _ (List.mem_cons_of_mem _ List.mem_cons_self))), _, rfl, by decide +kernel⟩, fun h => absurd h (by decide +kernel)⟩
theorem gc_e40 : (gc_cd 40).all (gc_okE 40) = true := by decide +kernel
theorem gc_h40 : gc_chain (gc_cd 40) = true := by decide +kernel
theorem gc_M40 : gc_okM 40 := by
  have h := gc_inL [Cond.code (gc_mN 40) (gc_mB 40) (gc_mL 40) (gc_mR 40), Cond.initialized (gc_mN 40).cls, Cond.instanceMethod (gc_mN 40), Cond.selects (gc_mN 40).cls (gc_mN 40) (gc_mN 40)] [876, 145, 875, 13] (by decide +kernel) (by decide +kernel)
  exact ⟨h _ List.mem_cons_self, h _ (List.mem_cons_of_mem _ List.mem_cons_self), by decide +kernel, by decide +kernel, by decide +kernel, by decide +kernel, by decide +kernel, fun h => absurd h (by decide +kernel), fun _ => ⟨h _ (List.mem_cons_of_mem _ (List.mem_cons_of_mem _ List.mem_cons_self)), h _ (List.mem_cons_of_mem _ (List.mem_cons_of_mem _ (List.mem_cons_of_mem _ List.mem_cons_self))), _, rfl, by decide +kernel⟩, fun h => absurd h (by decide +kernel)⟩
theorem gc_e41 : (gc_cd 41).all (gc_okE 41) = true := by decide +kernel
theorem gc_h41 : gc_chain (gc_cd 41) = true := by decide +kernel
theorem gc_M41 : gc_okM 41 := by
  have h := gc_inL [Cond.code (gc_mN 41) (gc_mB 41) (gc_mL 41) (gc_mR 41), Cond.initialized (gc_mN 41).cls, Cond.instanceMethod (gc_mN 41), Cond.selects (gc_mN 41).cls (gc_mN 41) (gc_mN 41)] [896, 145, 895, 16] (by decide +kernel) (by decide +kernel)
  exact ⟨h _ List.mem_cons_self, h _ (List.mem_cons_of_mem _ List.mem_cons_self), by decide +kernel, by decide +kernel, by decide +kernel, by decide +kernel, by decide +kernel, fun h => absurd h (by decide +kernel), fun _ => ⟨h _ (List.mem_cons_of_mem _ (List.mem_cons_of_mem _ List.mem_cons_self)), h _ (List.mem_cons_of_mem _ (List.mem_cons_of_mem _ (List.mem_cons_of_mem _ List.mem_cons_self))), _, rfl, by decide +kernel⟩, fun h => absurd h (by decide +kernel)⟩
theorem gc_e42 : (gc_cd 42).all (gc_okE 42) = true := by decide +kernel
theorem gc_h42 : gc_chain (gc_cd 42) = true := by decide +kernel
theorem gc_M42 : gc_okM 42 := by
  have h := gc_inL [Cond.code (gc_mN 42) (gc_mB 42) (gc_mL 42) (gc_mR 42), Cond.initialized (gc_mN 42).cls, Cond.instanceMethod (gc_mN 42), Cond.selects (gc_mN 42).cls (gc_mN 42) (gc_mN 42)] [900, 145, 899, 17] (by decide +kernel) (by decide +kernel)
  exact ⟨h _ List.mem_cons_self, h _ (List.mem_cons_of_mem _ List.mem_cons_self), by decide +kernel, by decide +kernel, by decide +kernel, by decide +kernel, by decide +kernel, fun h => absurd h (by decide +kernel), fun _ => ⟨h _ (List.mem_cons_of_mem _ (List.mem_cons_of_mem _ List.mem_cons_self)), h _ (List.mem_cons_of_mem _ (List.mem_cons_of_mem _ (List.mem_cons_of_mem _ List.mem_cons_self))), _, rfl, by decide +kernel⟩, fun h => absurd h (by decide +kernel)⟩
theorem gc_e43 : (gc_cd 43).all (gc_okE 43) = true := by decide +kernel
theorem gc_h43 : gc_chain (gc_cd 43) = true := by decide +kernel
theorem gc_M43 : gc_okM 43 := by
  have h := gc_inL [Cond.code (gc_mN 43) (gc_mB 43) (gc_mL 43) (gc_mR 43), Cond.initialized (gc_mN 43).cls, Cond.instanceMethod (gc_mN 43), Cond.selects (gc_mN 43).cls (gc_mN 43) (gc_mN 43)] [904, 145, 903, 18] (by decide +kernel) (by decide +kernel)
  exact ⟨h _ List.mem_cons_self, h _ (List.mem_cons_of_mem _ List.mem_cons_self), by decide +kernel, by decide +kernel, by decide +kernel, by decide +kernel, by decide +kernel, fun h => absurd h (by decide +kernel), fun _ => ⟨h _ (List.mem_cons_of_mem _ (List.mem_cons_of_mem _ List.mem_cons_self)), h _ (List.mem_cons_of_mem _ (List.mem_cons_of_mem _ (List.mem_cons_of_mem _ List.mem_cons_self))), _, rfl, by decide +kernel⟩, fun h => absurd h (by decide +kernel)⟩
theorem gc_e44 : (gc_cd 44).all (gc_okE 44) = true := by decide +kernel
theorem gc_h44 : gc_chain (gc_cd 44) = true := by decide +kernel
theorem gc_M44 : gc_okM 44 := by
  have h := gc_inL [Cond.code (gc_mN 44) (gc_mB 44) (gc_mL 44) (gc_mR 44), Cond.initialized (gc_mN 44).cls, Cond.instanceMethod (gc_mN 44), Cond.selects (gc_mN 44).cls (gc_mN 44) (gc_mN 44)] [884, 145, 883, 14] (by decide +kernel) (by decide +kernel)
  exact ⟨h _ List.mem_cons_self, h _ (List.mem_cons_of_mem _ List.mem_cons_self), by decide +kernel, by decide +kernel, by decide +kernel, by decide +kernel, by decide +kernel, fun h => absurd h (by decide +kernel), fun _ => ⟨h _ (List.mem_cons_of_mem _ (List.mem_cons_of_mem _ List.mem_cons_self)), h _ (List.mem_cons_of_mem _ (List.mem_cons_of_mem _ (List.mem_cons_of_mem _ List.mem_cons_self))), _, rfl, by decide +kernel⟩, fun h => absurd h (by decide +kernel)⟩
theorem gc_e45 : (gc_cd 45).all (gc_okE 45) = true := by decide +kernel
theorem gc_h45 : gc_chain (gc_cd 45) = true := by decide +kernel
theorem gc_M45 : gc_okM 45 := by
  have h := gc_inL [Cond.code (gc_mN 45) (gc_mB 45) (gc_mL 45) (gc_mR 45), Cond.initialized (gc_mN 45).cls, Cond.instanceMethod (gc_mN 45), Cond.selects (gc_mN 45).cls (gc_mN 45) (gc_mN 45)] [888, 145, 887, 15] (by decide +kernel) (by decide +kernel)
  exact ⟨h _ List.mem_cons_self, h _ (List.mem_cons_of_mem _ List.mem_cons_self), by decide +kernel, by decide +kernel, by decide +kernel, by decide +kernel, by decide +kernel, fun h => absurd h (by decide +kernel), fun _ => ⟨h _ (List.mem_cons_of_mem _ (List.mem_cons_of_mem _ List.mem_cons_self)), h _ (List.mem_cons_of_mem _ (List.mem_cons_of_mem _ (List.mem_cons_of_mem _ List.mem_cons_self))), _, rfl, by decide +kernel⟩, fun h => absurd h (by decide +kernel)⟩
theorem gc_e46 : (gc_cd 46).all (gc_okE 46) = true := by decide +kernel
theorem gc_h46 : gc_chain (gc_cd 46) = true := by decide +kernel
theorem gc_M46 : gc_okM 46 := by
  have h := gc_inL [Cond.code (gc_mN 46) (gc_mB 46) (gc_mL 46) (gc_mR 46), Cond.initialized (gc_mN 46).cls, Cond.instanceMethod (gc_mN 46)] [549, 149, 548] (by decide +kernel) (by decide +kernel)
  exact ⟨h _ List.mem_cons_self, h _ (List.mem_cons_of_mem _ List.mem_cons_self), by decide +kernel, by decide +kernel, by decide +kernel, by decide +kernel, by decide +kernel, fun h => absurd h (by decide +kernel), fun h => absurd h (by decide +kernel), fun _ => ⟨by decide +kernel, h _ (List.mem_cons_of_mem _ (List.mem_cons_of_mem _ List.mem_cons_self)), by decide +kernel⟩⟩
theorem gc_e47 : (gc_cd 47).all (gc_okE 47) = true := by decide +kernel
theorem gc_h47 : gc_chain (gc_cd 47) = true := by decide +kernel
theorem gc_M47 : gc_okM 47 := by
  have h := gc_inL [Cond.code (gc_mN 47) (gc_mB 47) (gc_mL 47) (gc_mR 47), Cond.initialized (gc_mN 47).cls, Cond.instanceMethod (gc_mN 47), Cond.selects (gc_mN 47).cls (gc_mN 47) (gc_mN 47)] [1191, 149, 1189, 1190] (by decide +kernel) (by decide +kernel)
  exact ⟨h _ List.mem_cons_self, h _ (List.mem_cons_of_mem _ List.mem_cons_self), by decide +kernel, by decide +kernel, by decide +kernel, by decide +kernel, by decide +kernel, fun h => absurd h (by decide +kernel), fun _ => ⟨h _ (List.mem_cons_of_mem _ (List.mem_cons_of_mem _ List.mem_cons_self)), h _ (List.mem_cons_of_mem _ (List.mem_cons_of_mem _ (List.mem_cons_of_mem _ List.mem_cons_self))), _, rfl, by decide +kernel⟩, fun h => absurd h (by decide +kernel)⟩
theorem gc_e48 : (gc_cd 48).all (gc_okE 48) = true := by decide +kernel
theorem gc_h48 : gc_chain (gc_cd 48) = true := by decide +kernel
theorem gc_M48 : gc_okM 48 := by
  have h := gc_inL [Cond.code (gc_mN 48) (gc_mB 48) (gc_mL 48) (gc_mR 48), Cond.initialized (gc_mN 48).cls, Cond.instanceMethod (gc_mN 48), Cond.selects (gc_mN 48).cls (gc_mN 48) (gc_mN 48)] [1195, 149, 1194, 47] (by decide +kernel) (by decide +kernel)
  exact ⟨h _ List.mem_cons_self, h _ (List.mem_cons_of_mem _ List.mem_cons_self), by decide +kernel, by decide +kernel, by decide +kernel, by decide +kernel, by decide +kernel, fun h => absurd h (by decide +kernel), fun _ => ⟨h _ (List.mem_cons_of_mem _ (List.mem_cons_of_mem _ List.mem_cons_self)), h _ (List.mem_cons_of_mem _ (List.mem_cons_of_mem _ (List.mem_cons_of_mem _ List.mem_cons_self))), _, rfl, by decide +kernel⟩, fun h => absurd h (by decide +kernel)⟩
