/-! The checks, by program. -/
theorem gc_e70 : (gc_cd 70).all (gc_okE 70) = true := by decide +kernel
theorem gc_h70 : gc_chain (gc_cd 70) = true := by decide +kernel
theorem gc_M70 : gc_okM 70 := by
  have h := gc_inL [Cond.code (gc_mN 70) (gc_mB 70) (gc_mL 70) (gc_mR 70), Cond.initialized (gc_mN 70).cls, Cond.instanceMethod (gc_mN 70), Cond.selects (gc_mN 70).cls (gc_mN 70) (gc_mN 70)] [1353, 151, 1352, 60] (by decide +kernel) (by decide +kernel)
  exact ⟨h _ List.mem_cons_self, h _ (List.mem_cons_of_mem _ List.mem_cons_self), by decide +kernel, by decide +kernel, by decide +kernel, by decide +kernel, by decide +kernel, fun h => absurd h (by decide +kernel), fun _ => ⟨h _ (List.mem_cons_of_mem _ (List.mem_cons_of_mem _ List.mem_cons_self)), h _ (List.mem_cons_of_mem _ (List.mem_cons_of_mem _ (List.mem_cons_of_mem _ List.mem_cons_self))), _, rfl, by decide +kernel⟩, fun h => absurd h (by decide +kernel)⟩
theorem gc_e71 : (gc_cd 71).all (gc_okE 71) = true := by decide +kernel
theorem gc_h71 : gc_chain (gc_cd 71) = true := by decide +kernel
theorem gc_M71 : gc_okM 71 := by
  have h := gc_inL [Cond.code (gc_mN 71) (gc_mB 71) (gc_mL 71) (gc_mR 71), Cond.initialized (gc_mN 71).cls, Cond.instanceMethod (gc_mN 71), Cond.selects (gc_mN 71).cls (gc_mN 71) (gc_mN 71)] [1363, 151, 1362, 62] (by decide +kernel) (by decide +kernel)
  exact ⟨h _ List.mem_cons_self, h _ (List.mem_cons_of_mem _ List.mem_cons_self), by decide +kernel, by decide +kernel, by decide +kernel, by decide +kernel, by decide +kernel, fun h => absurd h (by decide +kernel), fun _ => ⟨h _ (List.mem_cons_of_mem _ (List.mem_cons_of_mem _ List.mem_cons_self)), h _ (List.mem_cons_of_mem _ (List.mem_cons_of_mem _ (List.mem_cons_of_mem _ List.mem_cons_self))), _, rfl, by decide +kernel⟩, fun h => absurd h (by decide +kernel)⟩
theorem gc_e72 : (gc_cd 72).all (gc_okE 72) = true := by decide +kernel
theorem gc_h72 : gc_chain (gc_cd 72) = true := by decide +kernel
theorem gc_M72 : gc_okM 72 := by
  have h := gc_inL [Cond.code (gc_mN 72) (gc_mB 72) (gc_mL 72) (gc_mR 72), Cond.initialized (gc_mN 72).cls, Cond.instanceMethod (gc_mN 72), Cond.selects (gc_mN 72).cls (gc_mN 72) (gc_mN 72)] [1368, 151, 1367, 63] (by decide +kernel) (by decide +kernel)
  exact ⟨h _ List.mem_cons_self, h _ (List.mem_cons_of_mem _ List.mem_cons_self), by decide +kernel, by decide +kernel, by decide +kernel, by decide +kernel, by decide +kernel, fun h => absurd h (by decide +kernel), fun _ => ⟨h _ (List.mem_cons_of_mem _ (List.mem_cons_of_mem _ List.mem_cons_self)), h _ (List.mem_cons_of_mem _ (List.mem_cons_of_mem _ (List.mem_cons_of_mem _ List.mem_cons_self))), _, rfl, by decide +kernel⟩, fun h => absurd h (by decide +kernel)⟩
theorem gc_e73 : (gc_cd 73).all (gc_okE 73) = true := by decide +kernel
theorem gc_h73 : gc_chain (gc_cd 73) = true := by decide +kernel
theorem gc_M73 : gc_okM 73 := by
  have h := gc_inL [Cond.code (gc_mN 73) (gc_mB 73) (gc_mL 73) (gc_mR 73), Cond.initialized (gc_mN 73).cls, Cond.instanceMethod (gc_mN 73)] [478, 148, 477] (by decide +kernel) (by decide +kernel)
  exact ⟨h _ List.mem_cons_self, h _ (List.mem_cons_of_mem _ List.mem_cons_self), by decide +kernel, by decide +kernel, by decide +kernel, by decide +kernel, by decide +kernel, fun h => absurd h (by decide +kernel), fun h => absurd h (by decide +kernel), fun _ => ⟨by decide +kernel, h _ (List.mem_cons_of_mem _ (List.mem_cons_of_mem _ List.mem_cons_self)), by decide +kernel⟩⟩
theorem gc_e74 : (gc_cd 74).all (gc_okE 74) = true := by decide +kernel
theorem gc_h74 : gc_chain (gc_cd 74) = true := by decide +kernel
theorem gc_M74 : gc_okM 74 := by
  have h := gc_inL [Cond.code (gc_mN 74) (gc_mB 74) (gc_mL 74) (gc_mR 74), Cond.initialized (gc_mN 74).cls, Cond.instanceMethod (gc_mN 74), Cond.selects (gc_mN 74).cls (gc_mN 74) (gc_mN 74)] [949, 148, 947, 948] (by decide +kernel) (by decide +kernel)
  exact ⟨h _ List.mem_cons_self, h _ (List.mem_cons_of_mem _ List.mem_cons_self), by decide +kernel, by decide +kernel, by decide +kernel, by decide +kernel, by decide +kernel, fun h => absurd h (by decide +kernel), fun _ => ⟨h _ (List.mem_cons_of_mem _ (List.mem_cons_of_mem _ List.mem_cons_self)), h _ (List.mem_cons_of_mem _ (List.mem_cons_of_mem _ (List.mem_cons_of_mem _ List.mem_cons_self))), _, rfl, by decide +kernel⟩, fun h => absurd h (by decide +kernel)⟩
theorem gc_e75 : (gc_cd 75).all (gc_okE 75) = true := by decide +kernel
theorem gc_h75 : gc_chain (gc_cd 75) = true := by decide +kernel
theorem gc_M75 : gc_okM 75 := by
  have h := gc_inL [Cond.code (gc_mN 75) (gc_mB 75) (gc_mL 75) (gc_mR 75), Cond.initialized (gc_mN 75).cls, Cond.instanceMethod (gc_mN 75), Cond.selects (gc_mN 75).cls (gc_mN 75) (gc_mN 75)] [953, 148, 952, 22] (by decide +kernel) (by decide +kernel)
  exact ⟨h _ List.mem_cons_self, h _ (List.mem_cons_of_mem _ List.mem_cons_self), by decide +kernel, by decide +kernel, by decide +kernel, by decide +kernel, by decide +kernel, fun h => absurd h (by decide +kernel), fun _ => ⟨h _ (List.mem_cons_of_mem _ (List.mem_cons_of_mem _ List.mem_cons_self)), h _ (List.mem_cons_of_mem _ (List.mem_cons_of_mem _ (List.mem_cons_of_mem _ List.mem_cons_self))), _, rfl, by decide +kernel⟩, fun h => absurd h (by decide +kernel)⟩
theorem gc_e76 : (gc_cd 76).all (gc_okE 76) = true := by decide +kernel
theorem gc_h76 : gc_chain (gc_cd 76) = true := by decide +kernel
theorem gc_M76 : gc_okM 76 := by
  have h := gc_inL [Cond.code (gc_mN 76) (gc_mB 76) (gc_mL 76) (gc_mR 76), Cond.initialized (gc_mN 76).cls, Cond.instanceMethod (gc_mN 76), Cond.selects (gc_mN 76).cls (gc_mN 76) (gc_mN 76)] [961, 148, 960, 24] (by decide +kernel) (by decide +kernel)
  exact ⟨h _ List.mem_cons_self, h _ (List.mem_cons_of_mem _ List.mem_cons_self), by decide +kernel, by decide +kernel, by decide +kernel, by decide +kernel, by decide +kernel, fun h => absurd h (by decide +kernel), fun _ => ⟨h _ (List.mem_cons_of_mem _ (List.mem_cons_of_mem _ List.mem_cons_self)), h _ (List.mem_cons_of_mem _ (List.mem_cons_of_mem _ (List.mem_cons_of_mem _ List.mem_cons_self))), _, rfl, by decide +kernel⟩, fun h => absurd h (by decide +kernel)⟩
theorem gc_e77 : (gc_cd 77).all (gc_okE 77) = true := by decide +kernel
theorem gc_h77 : gc_chain (gc_cd 77) = true := by decide +kernel
theorem gc_M77 : gc_okM 77 := by
  have h := gc_inL [Cond.code (gc_mN 77) (gc_mB 77) (gc_mL 77) (gc_mR 77), Cond.initialized (gc_mN 77).cls, Cond.instanceMethod (gc_mN 77), Cond.selects (gc_mN 77).cls (gc_mN 77) (gc_mN 77)] [957, 148, 956, 23] (by decide +kernel) (by decide +kernel)
  exact ⟨h _ List.mem_cons_self, h _ (List.mem_cons_of_mem _ List.mem_cons_self), by decide +kernel, by decide +kernel, by decide +kernel, by decide +kernel, by decide +kernel, fun h => absurd h (by decide +kernel), fun _ => ⟨h _ (List.mem_cons_of_mem _ (List.mem_cons_of_mem _ List.mem_cons_self)), h _ (List.mem_cons_of_mem _ (List.mem_cons_of_mem _ (List.mem_cons_of_mem _ List.mem_cons_self))), _, rfl, by decide +kernel⟩, fun h => absurd h (by decide +kernel)⟩
theorem gc_e78 : (gc_cd 78).all (gc_okE 78) = true := by decide +kernel
theorem gc_h78 : gc_chain (gc_cd 78) = true := by decide +kernel
theorem gc_M78 : gc_okM 78 := by
  have h := gc_inL [Cond.code (gc_mN 78) (gc_mB 78) (gc_mL 78) (gc_mR 78), Cond.initialized (gc_mN 78).cls, Cond.static (gc_mN 78)] [971, 148, 970] (by decide +kernel) (by decide +kernel)
  exact ⟨h _ List.mem_cons_self, h _ (List.mem_cons_of_mem _ List.mem_cons_self), by decide +kernel, by decide +kernel, by decide +kernel, by decide +kernel, by decide +kernel, fun _ => h _ (List.mem_cons_of_mem _ (List.mem_cons_of_mem _ List.mem_cons_self)), fun h => absurd h (by decide +kernel), fun h => absurd h (by decide +kernel)⟩
theorem gc_e79 : (gc_cd 79).all (gc_okE 79) = true := by decide +kernel
theorem gc_h79 : gc_chain (gc_cd 79) = true := by decide +kernel
theorem gc_M79 : gc_okM 79 := by
  have h := gc_inL [Cond.code (gc_mN 79) (gc_mB 79) (gc_mL 79) (gc_mR 79), Cond.initialized (gc_mN 79).cls, Cond.instanceMethod (gc_mN 79), Cond.selects (gc_mN 79).cls (gc_mN 79) (gc_mN 79)] [1019, 148, 1018, 32] (by decide +kernel) (by decide +kernel)
  exact ⟨h _ List.mem_cons_self, h _ (List.mem_cons_of_mem _ List.mem_cons_self), by decide +kernel, by decide +kernel, by decide +kernel, by decide +kernel, by decide +kernel, fun h => absurd h (by decide +kernel), fun _ => ⟨h _ (List.mem_cons_of_mem _ (List.mem_cons_of_mem _ List.mem_cons_self)), h _ (List.mem_cons_of_mem _ (List.mem_cons_of_mem _ (List.mem_cons_of_mem _ List.mem_cons_self))), _, rfl, by decide +kernel⟩, fun h => absurd h (by decide +kernel)⟩
theorem gc_e80 : (gc_cd 80).all (gc_okE 80) = true := by decide +kernel
theorem gc_h80 : gc_chain (gc_cd 80) = true := by decide +kernel
theorem gc_M80 : gc_okM 80 := by
  have h := gc_inL [Cond.code (gc_mN 80) (gc_mB 80) (gc_mL 80) (gc_mR 80), Cond.initialized (gc_mN 80).cls, Cond.instanceMethod (gc_mN 80), Cond.selects (gc_mN 80).cls (gc_mN 80) (gc_mN 80)] [1023, 148, 1022, 33] (by decide +kernel) (by decide +kernel)
  exact ⟨h _ List.mem_cons_self, h _ (List.mem_cons_of_mem _ List.mem_cons_self), by decide +kernel, by decide +kernel, by decide +kernel, by decide +kernel, by decide +kernel, fun h => absurd h (by decide +kernel), fun _ => ⟨h _ (List.mem_cons_of_mem _ (List.mem_cons_of_mem _ List.mem_cons_self)), h _ (List.mem_cons_of_mem _ (List.mem_cons_of_mem _ (List.mem_cons_of_mem _ List.mem_cons_self))), _, rfl, by decide +kernel⟩, fun h => absurd h (by decide +kernel)⟩
theorem gc_e81 : (gc_cd 81).all (gc_okE 81) = true := by decide +kernel
theorem gc_h81 : gc_chain (gc_cd 81) = true := by decide +kernel
theorem gc_M81 : gc_okM 81 := by
  have h := gc_inL [Cond.code (gc_mN 81) (gc_mB 81) (gc_mL 81) (gc_mR 81), Cond.initialized (gc_mN 81).cls, Cond.instanceMethod (gc_mN 81), Cond.selects (gc_mN 81).cls (gc_mN 81) (gc_mN 81)] [1008, 148, 1007, 30] (by decide +kernel) (by decide +kernel)
  exact ⟨h _ List.mem_cons_self, h _ (List.mem_cons_of_mem _ List.mem_cons_self), by decide +kernel, by decide +kernel, by decide +kernel, by decide +kernel, by decide +kernel, fun h => absurd h (by decide +kernel), fun _ => ⟨h _ (List.mem_cons_of_mem _ (List.mem_cons_of_mem _ List.mem_cons_self)), h _ (List.mem_cons_of_mem _ (List.mem_cons_of_mem _ (List.mem_cons_of_mem _ List.mem_cons_self))), _, rfl, by decide +kernel⟩, fun h => absurd h (by decide +kernel)⟩
theorem gc_e82 : (gc_cd 82).all (gc_okE 82) = true := by decide +kernel
theorem gc_h82 : gc_chain (gc_cd 82) = true := by decide +kernel
theorem gc_M82 : gc_okM 82 := by
  have h := gc_inL [Cond.code (gc_mN 82) (gc_mB 82) (gc_mL 82) (gc_mR 82), Cond.initialized (gc_mN 82).cls, Cond.instanceMethod (gc_mN 82), Cond.selects (gc_mN 82).cls (gc_mN 82) (gc_mN 82)] [1013, 148, 1012, 31] (by decide +kernel) (by decide +kernel)
  exact ⟨h _ List.mem_cons_self, h _ (List.mem_cons_of_mem _ List.mem_cons_self), by decide +kernel, by decide +kernel, by decide +kernel, by decide +kernel, by decide +kernel, fun h => absurd h (by decide +kernel), fun _ => ⟨h _ (List.mem_cons_of_mem _ (List.mem_cons_of_mem _ List.mem_cons_self)), h _ (List.mem_cons_of_mem _ (List.mem_cons_of_mem _ (List.mem_cons_of_mem _ List.mem_cons_self))), _, rfl, by decide +kernel⟩, fun h => absurd h (by decide +kernel)⟩
theorem gc_e83 : (gc_cd 83).all (gc_okE 83) = true := by decide +kernel
theorem gc_h83 : gc_chain (gc_cd 83) = true := by decide +kernel
theorem gc_M83 : gc_okM 83 := by
  have h := gc_inL [Cond.code (gc_mN 83) (gc_mB 83) (gc_mL 83) (gc_mR 83), Cond.initialized (gc_mN 83).cls, Cond.instanceMethod (gc_mN 83), Cond.selects (gc_mN 83).cls (gc_mN 83) (gc_mN 83)] [978, 148, 977, 25] (by decide +kernel) (by decide +kernel)
  exact ⟨h _ List.mem_cons_self, h _ (List.mem_cons_of_mem _ List.mem_cons_self), by decide +kernel, by decide +kernel, by decide +kernel, by decide +kernel, by decide +kernel, fun h => absurd h (by decide +kernel), fun _ => ⟨h _ (List.mem_cons_of_mem _ (List.mem_cons_of_mem _ List.mem_cons_self)), h _ (List.mem_cons_of_mem _ (List.mem_cons_of_mem _ (List.mem_cons_of_mem _ List.mem_cons_self))), _, rfl, by decide +kernel⟩, fun h => absurd h (by decide +kernel)⟩
theorem gc_e84 : (gc_cd 84).all (gc_okE 84) = true := by decide +kernel
theorem gc_h84 : gc_chain (gc_cd 84) = true := by decide +kernel
theorem gc_M84 : gc_okM 84 := by
  have h := gc_inL [Cond.code (gc_mN 84) (gc_mB 84) (gc_mL 84) (gc_mR 84), Cond.initialized (gc_mN 84).cls, Cond.instanceMethod (gc_mN 84), Cond.selects (gc_mN 84).cls (gc_mN 84) (gc_mN 84)] [984, 148, 983, 26] (by decide +kernel) (by decide +kernel)
  exact ⟨h _ List.mem_cons_self, h _ (List.mem_cons_of_mem _ List.mem_cons_self), by decide +kernel, by decide +kernel, by decide +kernel, by decide +kernel, by decide +kernel, fun h => absurd h (by decide +kernel), fun _ => ⟨h _ (List.mem_cons_of_mem _ (List.mem_cons_of_mem _ List.mem_cons_self)), h _ (List.mem_cons_of_mem _ (List.mem_cons_of_mem _ (List.mem_cons_of_mem _ List.mem_cons_self))), _, rfl, by decide +kernel⟩, fun h => absurd h (by decide +kernel)⟩
