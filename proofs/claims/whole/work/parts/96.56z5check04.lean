/-! The checks, by program. -/
theorem gc_e85 : (gc_cd 85).all (gc_okE 85) = true := by decide +kernel
theorem gc_h85 : gc_chain (gc_cd 85) = true := by decide +kernel
theorem gc_M85 : gc_okM 85 := by
  have h := gc_inL [Cond.code (gc_mN 85) (gc_mB 85) (gc_mL 85) (gc_mR 85), Cond.initialized (gc_mN 85).cls, Cond.instanceMethod (gc_mN 85), Cond.selects (gc_mN 85).cls (gc_mN 85) (gc_mN 85)] [1003, 148, 1002, 29] (by decide +kernel) (by decide +kernel)
  exact ⟨h _ List.mem_cons_self, h _ (List.mem_cons_of_mem _ List.mem_cons_self), by decide +kernel, by decide +kernel, by decide +kernel, by decide +kernel, by decide +kernel, fun h => absurd h (by decide +kernel), fun _ => ⟨h _ (List.mem_cons_of_mem _ (List.mem_cons_of_mem _ List.mem_cons_self)), h _ (List.mem_cons_of_mem _ (List.mem_cons_of_mem _ (List.mem_cons_of_mem _ List.mem_cons_self))), _, rfl, by decide +kernel⟩, fun h => absurd h (by decide +kernel)⟩
theorem gc_e86 : (gc_cd 86).all (gc_okE 86) = true := by decide +kernel
theorem gc_h86 : gc_chain (gc_cd 86) = true := by decide +kernel
theorem gc_M86 : gc_okM 86 := by
  have h := gc_inL [Cond.code (gc_mN 86) (gc_mB 86) (gc_mL 86) (gc_mR 86), Cond.initialized (gc_mN 86).cls, Cond.instanceMethod (gc_mN 86), Cond.selects (gc_mN 86).cls (gc_mN 86) (gc_mN 86)] [995, 148, 994, 27] (by decide +kernel) (by decide +kernel)
  exact ⟨h _ List.mem_cons_self, h _ (List.mem_cons_of_mem _ List.mem_cons_self), by decide +kernel, by decide +kernel, by decide +kernel, by decide +kernel, by decide +kernel, fun h => absurd h (by decide +kernel), fun _ => ⟨h _ (List.mem_cons_of_mem _ (List.mem_cons_of_mem _ List.mem_cons_self)), h _ (List.mem_cons_of_mem _ (List.mem_cons_of_mem _ (List.mem_cons_of_mem _ List.mem_cons_self))), _, rfl, by decide +kernel⟩, fun h => absurd h (by decide +kernel)⟩
theorem gc_e87 : (gc_cd 87).all (gc_okE 87) = true := by decide +kernel
theorem gc_h87 : gc_chain (gc_cd 87) = true := by decide +kernel
theorem gc_M87 : gc_okM 87 := by
  have h := gc_inL [Cond.code (gc_mN 87) (gc_mB 87) (gc_mL 87) (gc_mR 87), Cond.initialized (gc_mN 87).cls, Cond.instanceMethod (gc_mN 87), Cond.selects (gc_mN 87).cls (gc_mN 87) (gc_mN 87)] [999, 148, 998, 28] (by decide +kernel) (by decide +kernel)
  exact ⟨h _ List.mem_cons_self, h _ (List.mem_cons_of_mem _ List.mem_cons_self), by decide +kernel, by decide +kernel, by decide +kernel, by decide +kernel, by decide +kernel, fun h => absurd h (by decide +kernel), fun _ => ⟨h _ (List.mem_cons_of_mem _ (List.mem_cons_of_mem _ List.mem_cons_self)), h _ (List.mem_cons_of_mem _ (List.mem_cons_of_mem _ (List.mem_cons_of_mem _ List.mem_cons_self))), _, rfl, by decide +kernel⟩, fun h => absurd h (by decide +kernel)⟩
theorem gc_e88 : (gc_cd 88).all (gc_okE 88) = true := by decide +kernel
theorem gc_h88 : gc_chain (gc_cd 88) = true := by decide +kernel
theorem gc_M88 : gc_okM 88 := by
  have h := gc_inL [Cond.code (gc_mN 88) (gc_mB 88) (gc_mL 88) (gc_mR 88), Cond.initialized (gc_mN 88).cls, Cond.instanceMethod (gc_mN 88)] [170, 139, 169] (by decide +kernel) (by decide +kernel)
  exact ⟨h _ List.mem_cons_self, h _ (List.mem_cons_of_mem _ List.mem_cons_self), by decide +kernel, by decide +kernel, by decide +kernel, by decide +kernel, by decide +kernel, fun h => absurd h (by decide +kernel), fun h => absurd h (by decide +kernel), fun _ => ⟨by decide +kernel, h _ (List.mem_cons_of_mem _ (List.mem_cons_of_mem _ List.mem_cons_self)), by decide +kernel⟩⟩
theorem gc_e89 : (gc_cd 89).all (gc_okE 89) = true := by decide +kernel
theorem gc_h89 : gc_chain (gc_cd 89) = true := by decide +kernel
theorem gc_M89 : gc_okM 89 := by
  have h := gc_inL [Cond.code (gc_mN 89) (gc_mB 89) (gc_mL 89) (gc_mR 89), Cond.initialized (gc_mN 89).cls, Cond.instanceMethod (gc_mN 89), Cond.selects (gc_mN 89).cls (gc_mN 89) (gc_mN 89)] [743, 139, 741, 742] (by decide +kernel) (by decide +kernel)
  exact ⟨h _ List.mem_cons_self, h _ (List.mem_cons_of_mem _ List.mem_cons_self), by decide +kernel, by decide +kernel, by decide +kernel, by decide +kernel, by decide +kernel, fun h => absurd h (by decide +kernel), fun _ => ⟨h _ (List.mem_cons_of_mem _ (List.mem_cons_of_mem _ List.mem_cons_self)), h _ (List.mem_cons_of_mem _ (List.mem_cons_of_mem _ (List.mem_cons_of_mem _ List.mem_cons_self))), _, rfl, by decide +kernel⟩, fun h => absurd h (by decide +kernel)⟩
theorem gc_e90 : (gc_cd 90).all (gc_okE 90) = true := by decide +kernel
theorem gc_h90 : gc_chain (gc_cd 90) = true := by decide +kernel
theorem gc_M90 : gc_okM 90 := by
  have h := gc_inL [Cond.code (gc_mN 90) (gc_mB 90) (gc_mL 90) (gc_mR 90), Cond.initialized (gc_mN 90).cls, Cond.instanceMethod (gc_mN 90), Cond.selects (gc_mN 90).cls (gc_mN 90) (gc_mN 90)] [763, 139, 761, 762] (by decide +kernel) (by decide +kernel)
  exact ⟨h _ List.mem_cons_self, h _ (List.mem_cons_of_mem _ List.mem_cons_self), by decide +kernel, by decide +kernel, by decide +kernel, by decide +kernel, by decide +kernel, fun h => absurd h (by decide +kernel), fun _ => ⟨h _ (List.mem_cons_of_mem _ (List.mem_cons_of_mem _ List.mem_cons_self)), h _ (List.mem_cons_of_mem _ (List.mem_cons_of_mem _ (List.mem_cons_of_mem _ List.mem_cons_self))), _, rfl, by decide +kernel⟩, fun h => absurd h (by decide +kernel)⟩
theorem gc_e91 : (gc_cd 91).all (gc_okE 91) = true := by decide +kernel
theorem gc_h91 : gc_chain (gc_cd 91) = true := by decide +kernel
theorem gc_M91 : gc_okM 91 := by
  have h := gc_inL [Cond.code (gc_mN 91) (gc_mB 91) (gc_mL 91) (gc_mR 91), Cond.initialized (gc_mN 91).cls, Cond.instanceMethod (gc_mN 91)] [186, 140, 185] (by decide +kernel) (by decide +kernel)
  exact ⟨h _ List.mem_cons_self, h _ (List.mem_cons_of_mem _ List.mem_cons_self), by decide +kernel, by decide +kernel, by decide +kernel, by decide +kernel, by decide +kernel, fun h => absurd h (by decide +kernel), fun h => absurd h (by decide +kernel), fun _ => ⟨by decide +kernel, h _ (List.mem_cons_of_mem _ (List.mem_cons_of_mem _ List.mem_cons_self)), by decide +kernel⟩⟩
theorem gc_e92 : (gc_cd 92).all (gc_okE 92) = true := by decide +kernel
theorem gc_h92 : gc_chain (gc_cd 92) = true := by decide +kernel
theorem gc_M92 : gc_okM 92 := by
  have h := gc_inL [Cond.code (gc_mN 92) (gc_mB 92) (gc_mL 92) (gc_mR 92), Cond.initialized (gc_mN 92).cls, Cond.static (gc_mN 92)] [191, 140, 190] (by decide +kernel) (by decide +kernel)
  exact ⟨h _ List.mem_cons_self, h _ (List.mem_cons_of_mem _ List.mem_cons_self), by decide +kernel, by decide +kernel, by decide +kernel, by decide +kernel, by decide +kernel, fun _ => h _ (List.mem_cons_of_mem _ (List.mem_cons_of_mem _ List.mem_cons_self)), fun h => absurd h (by decide +kernel), fun h => absurd h (by decide +kernel)⟩
theorem gc_e93 : (gc_cd 93).all (gc_okE 93) = true := by decide +kernel
theorem gc_h93 : gc_chain (gc_cd 93) = true := by decide +kernel
theorem gc_M93 : gc_okM 93 := by
  have h := gc_inL [Cond.code (gc_mN 93) (gc_mB 93) (gc_mL 93) (gc_mR 93), Cond.initialized (gc_mN 93).cls, Cond.static (gc_mN 93)] [242, 140, 241] (by decide +kernel) (by decide +kernel)
  exact ⟨h _ List.mem_cons_self, h _ (List.mem_cons_of_mem _ List.mem_cons_self), by decide +kernel, by decide +kernel, by decide +kernel, by decide +kernel, by decide +kernel, fun _ => h _ (List.mem_cons_of_mem _ (List.mem_cons_of_mem _ List.mem_cons_self)), fun h => absurd h (by decide +kernel), fun h => absurd h (by decide +kernel)⟩
theorem gc_e94 : (gc_cd 94).all (gc_okE 94) = true := by decide +kernel
theorem gc_h94 : gc_chain (gc_cd 94) = true := by decide +kernel
theorem gc_M94 : gc_okM 94 := by
  have h := gc_inL [Cond.code (gc_mN 94) (gc_mB 94) (gc_mL 94) (gc_mR 94), Cond.initialized (gc_mN 94).cls, Cond.instanceMethod (gc_mN 94), Cond.selects (gc_mN 94).cls (gc_mN 94) (gc_mN 94)] [755, 140, 753, 754] (by decide +kernel) (by decide +kernel)
  exact ⟨h _ List.mem_cons_self, h _ (List.mem_cons_of_mem _ List.mem_cons_self), by decide +kernel, by decide +kernel, by decide +kernel, by decide +kernel, by decide +kernel, fun h => absurd h (by decide +kernel), fun _ => ⟨h _ (List.mem_cons_of_mem _ (List.mem_cons_of_mem _ List.mem_cons_self)), h _ (List.mem_cons_of_mem _ (List.mem_cons_of_mem _ (List.mem_cons_of_mem _ List.mem_cons_self))), _, rfl, by decide +kernel⟩, fun h => absurd h (by decide +kernel)⟩
theorem gc_e95 : (gc_cd 95).all (gc_okE 95) = true := by decide +kernel
theorem gc_h95 : gc_chain (gc_cd 95) = true := by decide +kernel
theorem gc_M95 : gc_okM 95 := by
  have h := gc_inL [Cond.code (gc_mN 95) (gc_mB 95) (gc_mL 95) (gc_mR 95), Cond.initialized (gc_mN 95).cls, Cond.instanceMethod (gc_mN 95), Cond.selects (gc_mN 95).cls (gc_mN 95) (gc_mN 95)] [759, 140, 758, 0] (by decide +kernel) (by decide +kernel)
  exact ⟨h _ List.mem_cons_self, h _ (List.mem_cons_of_mem _ List.mem_cons_self), by decide +kernel, by decide +kernel, by decide +kernel, by decide +kernel, by decide +kernel, fun h => absurd h (by decide +kernel), fun _ => ⟨h _ (List.mem_cons_of_mem _ (List.mem_cons_of_mem _ List.mem_cons_self)), h _ (List.mem_cons_of_mem _ (List.mem_cons_of_mem _ (List.mem_cons_of_mem _ List.mem_cons_self))), _, rfl, by decide +kernel⟩, fun h => absurd h (by decide +kernel)⟩
theorem gc_e96 : (gc_cd 96).all (gc_okE 96) = true := by decide +kernel
theorem gc_h96 : gc_chain (gc_cd 96) = true := by decide +kernel
theorem gc_M96 : gc_okM 96 := by
  have h := gc_inL [Cond.code (gc_mN 96) (gc_mB 96) (gc_mL 96) (gc_mR 96), Cond.initialized (gc_mN 96).cls, Cond.instanceMethod (gc_mN 96), Cond.selects (gc_mN 96).cls (gc_mN 96) (gc_mN 96)] [773, 140, 772, 1] (by decide +kernel) (by decide +kernel)
  exact ⟨h _ List.mem_cons_self, h _ (List.mem_cons_of_mem _ List.mem_cons_self), by decide +kernel, by decide +kernel, by decide +kernel, by decide +kernel, by decide +kernel, fun h => absurd h (by decide +kernel), fun _ => ⟨h _ (List.mem_cons_of_mem _ (List.mem_cons_of_mem _ List.mem_cons_self)), h _ (List.mem_cons_of_mem _ (List.mem_cons_of_mem _ (List.mem_cons_of_mem _ List.mem_cons_self))), _, rfl, by decide +kernel⟩, fun h => absurd h (by decide +kernel)⟩
theorem gc_e97 : (gc_cd 97).all (gc_okE 97) = true := by decide +kernel
theorem gc_h97 : gc_chain (gc_cd 97) = true := by decide +kernel
theorem gc_M97 : gc_okM 97 := by
  have h := gc_inL [Cond.code (gc_mN 97) (gc_mB 97) (gc_mL 97) (gc_mR 97), Cond.initialized (gc_mN 97).cls, Cond.instanceMethod (gc_mN 97), Cond.selects (gc_mN 97).cls (gc_mN 97) (gc_mN 97)] [777, 140, 776, 2] (by decide +kernel) (by decide +kernel)
  exact ⟨h _ List.mem_cons_self, h _ (List.mem_cons_of_mem _ List.mem_cons_self), by decide +kernel, by decide +kernel, by decide +kernel, by decide +kernel, by decide +kernel, fun h => absurd h (by decide +kernel), fun _ => ⟨h _ (List.mem_cons_of_mem _ (List.mem_cons_of_mem _ List.mem_cons_self)), h _ (List.mem_cons_of_mem _ (List.mem_cons_of_mem _ (List.mem_cons_of_mem _ List.mem_cons_self))), _, rfl, by decide +kernel⟩, fun h => absurd h (by decide +kernel)⟩
theorem gc_e98 : (gc_cd 98).all (gc_okE 98) = true := by decide +kernel
theorem gc_h98 : gc_chain (gc_cd 98) = true := by decide +kernel
theorem gc_M98 : gc_okM 98 := by
  have h := gc_inL [Cond.code (gc_mN 98) (gc_mB 98) (gc_mL 98) (gc_mR 98), Cond.initialized (gc_mN 98).cls, Cond.instanceMethod (gc_mN 98), Cond.selects (gc_mN 98).cls (gc_mN 98) (gc_mN 98)] [784, 140, 783, 3] (by decide +kernel) (by decide +kernel)
  exact ⟨h _ List.mem_cons_self, h _ (List.mem_cons_of_mem _ List.mem_cons_self), by decide +kernel, by decide +kernel, by decide +kernel, by decide +kernel, by decide +kernel, fun h => absurd h (by decide +kernel), fun _ => ⟨h _ (List.mem_cons_of_mem _ (List.mem_cons_of_mem _ List.mem_cons_self)), h _ (List.mem_cons_of_mem _ (List.mem_cons_of_mem _ (List.mem_cons_of_mem _ List.mem_cons_self))), _, rfl, by decide +kernel⟩, fun h => absurd h (by decide +kernel)⟩
theorem gc_e99 : (gc_cd 99).all (gc_okE 99) = true := by decide +kernel
theorem gc_h99 : gc_chain (gc_cd 99) = true := by decide +kernel
theorem gc_M99 : gc_okM 99 := by
  have h := gc_inL [Cond.code (gc_mN 99) (gc_mB 99) (gc_mL 99) (gc_mR 99), Cond.initialized (gc_mN 99).cls, Cond.static (gc_mN 99)] [766, 140, 765] (by decide +kernel) (by decide +kernel)
  exact ⟨h _ List.mem_cons_self, h _ (List.mem_cons_of_mem _ List.mem_cons_self), by decide +kernel, by decide +kernel, by decide +kernel, by decide +kernel, by decide +kernel, fun _ => h _ (List.mem_cons_of_mem _ (List.mem_cons_of_mem _ List.mem_cons_self)), fun h => absurd h (by decide +kernel), fun h => absurd h (by decide +kernel)⟩
theorem gc_e100 : (gc_cd 100).all (gc_okE 100) = true := by decide +kernel
theorem gc_h100 : gc_chain (gc_cd 100) = true := by decide +kernel
theorem gc_M100 : gc_okM 100 := by
  have h := gc_inL [Cond.code (gc_mN 100) (gc_mB 100) (gc_mL 100) (gc_mR 100), Cond.initialized (gc_mN 100).cls, Cond.static (gc_mN 100)] [769, 140, 768] (by decide +kernel) (by decide +kernel)
  exact ⟨h _ List.mem_cons_self, h _ (List.mem_cons_of_mem _ List.mem_cons_self), by decide +kernel, by decide +kernel, by decide +kernel, by decide +kernel, by decide +kernel, fun _ => h _ (List.mem_cons_of_mem _ (List.mem_cons_of_mem _ List.mem_cons_self)), fun h => absurd h (by decide +kernel), fun h => absurd h (by decide +kernel)⟩
theorem gc_e101 : (gc_cd 101).all (gc_okE 101) = true := by decide +kernel
theorem gc_h101 : gc_chain (gc_cd 101) = true := by decide +kernel
theorem gc_M101 : gc_okM 101 := by
  have h := gc_inL [Cond.code (gc_mN 101) (gc_mB 101) (gc_mL 101) (gc_mR 101), Cond.initialized (gc_mN 101).cls, Cond.static (gc_mN 101)] [780, 140, 779] (by decide +kernel) (by decide +kernel)
  exact ⟨h _ List.mem_cons_self, h _ (List.mem_cons_of_mem _ List.mem_cons_self), by decide +kernel, by decide +kernel, by decide +kernel, by decide +kernel, by decide +kernel, fun _ => h _ (List.mem_cons_of_mem _ (List.mem_cons_of_mem _ List.mem_cons_self)), fun h => absurd h (by decide +kernel), fun h => absurd h (by decide +kernel)⟩
theorem gc_e102 : (gc_cd 102).all (gc_okE 102) = true := by decide +kernel
theorem gc_h102 : gc_chain (gc_cd 102) = true := by decide +kernel
theorem gc_M102 : gc_okM 102 := by
  have h := gc_inL [Cond.code (gc_mN 102) (gc_mB 102) (gc_mL 102) (gc_mR 102), Cond.initialized (gc_mN 102).cls, Cond.static (gc_mN 102)] [787, 140, 786] (by decide +kernel) (by decide +kernel)
  exact ⟨h _ List.mem_cons_self, h _ (List.mem_cons_of_mem _ List.mem_cons_self), by decide +kernel, by decide +kernel, by decide +kernel, by decide +kernel, by decide +kernel, fun _ => h _ (List.mem_cons_of_mem _ (List.mem_cons_of_mem _ List.mem_cons_self)), fun h => absurd h (by decide +kernel), fun h => absurd h (by decide +kernel)⟩
theorem gc_e103 : (gc_cd 103).all (gc_okE 103) = true := by decide +kernel
theorem gc_h103 : gc_chain (gc_cd 103) = true := by decide +kernel
theorem gc_M103 : gc_okM 103 := by
  have h := gc_inL [Cond.code (gc_mN 103) (gc_mB 103) (gc_mL 103) (gc_mR 103), Cond.initialized (gc_mN 103).cls, Cond.instanceMethod (gc_mN 103), Cond.selects (gc_mN 103).cls (gc_mN 103) (gc_mN 103)] [799, 140, 797, 798] (by decide +kernel) (by decide +kernel)
  exact ⟨h _ List.mem_cons_self, h _ (List.mem_cons_of_mem _ List.mem_cons_self), by decide +kernel, by decide +kernel, by decide +kernel, by decide +kernel, by decide +kernel, fun h => absurd h (by decide +kernel), fun _ => ⟨h _ (List.mem_cons_of_mem _ (List.mem_cons_of_mem _ List.mem_cons_self)), h _ (List.mem_cons_of_mem _ (List.mem_cons_of_mem _ (List.mem_cons_of_mem _ List.mem_cons_self))), _, rfl, by decide +kernel⟩, fun h => absurd h (by decide +kernel)⟩
theorem gc_e104 : (gc_cd 104).all (gc_okE 104) = true := by decide +kernel
theorem gc_h104 : gc_chain (gc_cd 104) = true := by decide +kernel
theorem gc_M104 : gc_okM 104 := by
  have h := gc_inL [Cond.code (gc_mN 104) (gc_mB 104) (gc_mL 104) (gc_mR 104), Cond.initialized (gc_mN 104).cls, Cond.instanceMethod (gc_mN 104), Cond.selects (gc_mN 104).cls (gc_mN 104) (gc_mN 104)] [880, 140, 878, 879] (by decide +kernel) (by decide +kernel)
  exact ⟨h _ List.mem_cons_self, h _ (List.mem_cons_of_mem _ List.mem_cons_self), by decide +kernel, by decide +kernel, by decide +kernel, by decide +kernel, by decide +kernel, fun h => absurd h (by decide +kernel), fun _ => ⟨h _ (List.mem_cons_of_mem _ (List.mem_cons_of_mem _ List.mem_cons_self)), h _ (List.mem_cons_of_mem _ (List.mem_cons_of_mem _ (List.mem_cons_of_mem _ List.mem_cons_self))), _, rfl, by decide +kernel⟩, fun h => absurd h (by decide +kernel)⟩
theorem gc_e105 : (gc_cd 105).all (gc_okE 105) = true := by decide +kernel
theorem gc_h105 : gc_chain (gc_cd 105) = true := by decide +kernel
theorem gc_M105 : gc_okM 105 := by
  have h := gc_inL [Cond.code (gc_mN 105) (gc_mB 105) (gc_mL 105) (gc_mR 105), Cond.initialized (gc_mN 105).cls, Cond.instanceMethod (gc_mN 105), Cond.selects (gc_mN 105).cls (gc_mN 105) (gc_mN 105)] [965, 140, 963, 964] (by decide +kernel) (by decide +kernel)
  exact ⟨h _ List.mem_cons_self, h _ (List.mem_cons_of_mem _ List.mem_cons_self), by decide +kernel, by decide +kernel, by decide +kernel, by decide +kernel, by decide +kernel, fun h => absurd h (by decide +kernel), fun _ => ⟨h _ (List.mem_cons_of_mem _ (List.mem_cons_of_mem _ List.mem_cons_self)), h _ (List.mem_cons_of_mem _ (List.mem_cons_of_mem _ (List.mem_cons_of_mem _ List.mem_cons_self))), _, rfl, by decide +kernel⟩, fun h => absurd h (by decide +kernel)⟩
theorem gc_e106 : (gc_cd 106).all (gc_okE 106) = true := by decide +kernel
theorem gc_h106 : gc_chain (gc_cd 106) = true := by decide +kernel
theorem gc_M106 : gc_okM 106 := by
  have h := gc_inL [Cond.code (gc_mN 106) (gc_mB 106) (gc_mL 106) (gc_mR 106), Cond.initialized (gc_mN 106).cls, Cond.instanceMethod (gc_mN 106), Cond.selects (gc_mN 106).cls (gc_mN 106) (gc_mN 106)] [811, 140, 809, 810] (by decide +kernel) (by decide +kernel)
  exact ⟨h _ List.mem_cons_self, h _ (List.mem_cons_of_mem _ List.mem_cons_self), by decide +kernel, by decide +kernel, by decide +kernel, by decide +kernel, by decide +kernel, fun h => absurd h (by decide +kernel), fun _ => ⟨h _ (List.mem_cons_of_mem _ (List.mem_cons_of_mem _ List.mem_cons_self)), h _ (List.mem_cons_of_mem _ (List.mem_cons_of_mem _ (List.mem_cons_of_mem _ List.mem_cons_self))), _, rfl, by decide +kernel⟩, fun h => absurd h (by decide +kernel)⟩
theorem gc_e107 : (gc_cd 107).all (gc_okE 107) = true := by decide +kernel
theorem gc_h107 : gc_chain (gc_cd 107) = true := by decide +kernel
theorem gc_M107 : gc_okM 107 := by
  have h := gc_inL [Cond.code (gc_mN 107) (gc_mB 107) (gc_mL 107) (gc_mR 107), Cond.initialized (gc_mN 107).cls, Cond.instanceMethod (gc_mN 107), Cond.selects (gc_mN 107).cls (gc_mN 107) (gc_mN 107)] [819, 140, 817, 818] (by decide +kernel) (by decide +kernel)
  exact ⟨h _ List.mem_cons_self, h _ (List.mem_cons_of_mem _ List.mem_cons_self), by decide +kernel, by decide +kernel, by decide +kernel, by decide +kernel, by decide +kernel, fun h => absurd h (by decide +kernel), fun _ => ⟨h _ (List.mem_cons_of_mem _ (List.mem_cons_of_mem _ List.mem_cons_self)), h _ (List.mem_cons_of_mem _ (List.mem_cons_of_mem _ (List.mem_cons_of_mem _ List.mem_cons_self))), _, rfl, by decide +kernel⟩, fun h => absurd h (by decide +kernel)⟩
theorem gc_e108 : (gc_cd 108).all (gc_okE 108) = true := by decide +kernel
theorem gc_h108 : gc_chain (gc_cd 108) = true := by decide +kernel
theorem gc_M108 : gc_okM 108 := by
  have h := gc_inL [Cond.code (gc_mN 108) (gc_mB 108) (gc_mL 108) (gc_mR 108), Cond.initialized (gc_mN 108).cls, Cond.instanceMethod (gc_mN 108), Cond.selects (gc_mN 108).cls (gc_mN 108) (gc_mN 108)] [815, 140, 813, 814] (by decide +kernel) (by decide +kernel)
  exact ⟨h _ List.mem_cons_self, h _ (List.mem_cons_of_mem _ List.mem_cons_self), by decide +kernel, by decide +kernel, by decide +kernel, by decide +kernel, by decide +kernel, fun h => absurd h (by decide +kernel), fun _ => ⟨h _ (List.mem_cons_of_mem _ (List.mem_cons_of_mem _ List.mem_cons_self)), h _ (List.mem_cons_of_mem _ (List.mem_cons_of_mem _ (List.mem_cons_of_mem _ List.mem_cons_self))), _, rfl, by decide +kernel⟩, fun h => absurd h (by decide +kernel)⟩
theorem gc_e109 : (gc_cd 109).all (gc_okE 109) = true := by decide +kernel
theorem gc_h109 : gc_chain (gc_cd 109) = true := by decide +kernel
theorem gc_M109 : gc_okM 109 := by
  have h := gc_inL [Cond.code (gc_mN 109) (gc_mB 109) (gc_mL 109) (gc_mR 109), Cond.initialized (gc_mN 109).cls, Cond.instanceMethod (gc_mN 109), Cond.selects (gc_mN 109).cls (gc_mN 109) (gc_mN 109)] [829, 140, 827, 828] (by decide +kernel) (by decide +kernel)
  exact ⟨h _ List.mem_cons_self, h _ (List.mem_cons_of_mem _ List.mem_cons_self), by decide +kernel, by decide +kernel, by decide +kernel, by decide +kernel, by decide +kernel, fun h => absurd h (by decide +kernel), fun _ => ⟨h _ (List.mem_cons_of_mem _ (List.mem_cons_of_mem _ List.mem_cons_self)), h _ (List.mem_cons_of_mem _ (List.mem_cons_of_mem _ (List.mem_cons_of_mem _ List.mem_cons_self))), _, rfl, by decide +kernel⟩, fun h => absurd h (by decide +kernel)⟩
theorem gc_e110 : (gc_cd 110).all (gc_okE 110) = true := by decide +kernel
theorem gc_h110 : gc_chain (gc_cd 110) = true := by decide +kernel
theorem gc_M110 : gc_okM 110 := by
  have h := gc_inL [Cond.code (gc_mN 110) (gc_mB 110) (gc_mL 110) (gc_mR 110), Cond.initialized (gc_mN 110).cls, Cond.instanceMethod (gc_mN 110), Cond.selects (gc_mN 110).cls (gc_mN 110) (gc_mN 110)] [912, 140, 910, 911] (by decide +kernel) (by decide +kernel)
  exact ⟨h _ List.mem_cons_self, h _ (List.mem_cons_of_mem _ List.mem_cons_self), by decide +kernel, by decide +kernel, by decide +kernel, by decide +kernel, by decide +kernel, fun h => absurd h (by decide +kernel), fun _ => ⟨h _ (List.mem_cons_of_mem _ (List.mem_cons_of_mem _ List.mem_cons_self)), h _ (List.mem_cons_of_mem _ (List.mem_cons_of_mem _ (List.mem_cons_of_mem _ List.mem_cons_self))), _, rfl, by decide +kernel⟩, fun h => absurd h (by decide +kernel)⟩
theorem gc_e111 : (gc_cd 111).all (gc_okE 111) = true := by decide +kernel
theorem gc_h111 : gc_chain (gc_cd 111) = true := by decide +kernel
theorem gc_M111 : gc_okM 111 := by
  have h := gc_inL [Cond.code (gc_mN 111) (gc_mB 111) (gc_mL 111) (gc_mR 111), Cond.initialized (gc_mN 111).cls, Cond.instanceMethod (gc_mN 111), Cond.selects (gc_mN 111).cls (gc_mN 111) (gc_mN 111)] [908, 140, 906, 907] (by decide +kernel) (by decide +kernel)
  exact ⟨h _ List.mem_cons_self, h _ (List.mem_cons_of_mem _ List.mem_cons_self), by decide +kernel, by decide +kernel, by decide +kernel, by decide +kernel, by decide +kernel, fun h => absurd h (by decide +kernel), fun _ => ⟨h _ (List.mem_cons_of_mem _ (List.mem_cons_of_mem _ List.mem_cons_self)), h _ (List.mem_cons_of_mem _ (List.mem_cons_of_mem _ (List.mem_cons_of_mem _ List.mem_cons_self))), _, rfl, by decide +kernel⟩, fun h => absurd h (by decide +kernel)⟩
theorem gc_e112 : (gc_cd 112).all (gc_okE 112) = true := by decide +kernel
theorem gc_h112 : gc_chain (gc_cd 112) = true := by decide +kernel
theorem gc_M112 : gc_okM 112 := by
  have h := gc_inL [Cond.code (gc_mN 112) (gc_mB 112) (gc_mL 112) (gc_mR 112), Cond.initialized (gc_mN 112).cls, Cond.instanceMethod (gc_mN 112), Cond.selects (gc_mN 112).cls (gc_mN 112) (gc_mN 112)] [849, 140, 847, 848] (by decide +kernel) (by decide +kernel)
  exact ⟨h _ List.mem_cons_self, h _ (List.mem_cons_of_mem _ List.mem_cons_self), by decide +kernel, by decide +kernel, by decide +kernel, by decide +kernel, by decide +kernel, fun h => absurd h (by decide +kernel), fun _ => ⟨h _ (List.mem_cons_of_mem _ (List.mem_cons_of_mem _ List.mem_cons_self)), h _ (List.mem_cons_of_mem _ (List.mem_cons_of_mem _ (List.mem_cons_of_mem _ List.mem_cons_self))), _, rfl, by decide +kernel⟩, fun h => absurd h (by decide +kernel)⟩
theorem gc_e113 : (gc_cd 113).all (gc_okE 113) = true := by decide +kernel
theorem gc_h113 : gc_chain (gc_cd 113) = true := by decide +kernel
theorem gc_M113 : gc_okM 113 := by
  have h := gc_inL [Cond.code (gc_mN 113) (gc_mB 113) (gc_mL 113) (gc_mR 113), Cond.initialized (gc_mN 113).cls, Cond.instanceMethod (gc_mN 113), Cond.selects (gc_mN 113).cls (gc_mN 113) (gc_mN 113)] [855, 140, 854, 9] (by decide +kernel) (by decide +kernel)
  exact ⟨h _ List.mem_cons_self, h _ (List.mem_cons_of_mem _ List.mem_cons_self), by decide +kernel, by decide +kernel, by decide +kernel, by decide +kernel, by decide +kernel, fun h => absurd h (by decide +kernel), fun _ => ⟨h _ (List.mem_cons_of_mem _ (List.mem_cons_of_mem _ List.mem_cons_self)), h _ (List.mem_cons_of_mem _ (List.mem_cons_of_mem _ (List.mem_cons_of_mem _ List.mem_cons_self))), _, rfl, by decide +kernel⟩, fun h => absurd h (by decide +kernel)⟩
theorem gc_e114 : (gc_cd 114).all (gc_okE 114) = true := by decide +kernel
theorem gc_h114 : gc_chain (gc_cd 114) = true := by decide +kernel
theorem gc_M114 : gc_okM 114 := by
  have h := gc_inL [Cond.code (gc_mN 114) (gc_mB 114) (gc_mL 114) (gc_mR 114), Cond.initialized (gc_mN 114).cls, Cond.instanceMethod (gc_mN 114)] [600, 150, 599] (by decide +kernel) (by decide +kernel)
  exact ⟨h _ List.mem_cons_self, h _ (List.mem_cons_of_mem _ List.mem_cons_self), by decide +kernel, by decide +kernel, by decide +kernel, by decide +kernel, by decide +kernel, fun h => absurd h (by decide +kernel), fun h => absurd h (by decide +kernel), fun _ => ⟨by decide +kernel, h _ (List.mem_cons_of_mem _ (List.mem_cons_of_mem _ List.mem_cons_self)), by decide +kernel⟩⟩
theorem gc_e115 : (gc_cd 115).all (gc_okE 115) = true := by decide +kernel
theorem gc_h115 : gc_chain (gc_cd 115) = true := by decide +kernel
theorem gc_M115 : gc_okM 115 := by
  have h := gc_inL [Cond.code (gc_mN 115) (gc_mB 115) (gc_mL 115) (gc_mR 115), Cond.initialized (gc_mN 115).cls, Cond.instanceMethod (gc_mN 115), Cond.selects (gc_mN 115).cls (gc_mN 115) (gc_mN 115)] [1173, 150, 1171, 1172] (by decide +kernel) (by decide +kernel)
  exact ⟨h _ List.mem_cons_self, h _ (List.mem_cons_of_mem _ List.mem_cons_self), by decide +kernel, by decide +kernel, by decide +kernel, by decide +kernel, by decide +kernel, fun h => absurd h (by decide +kernel), fun _ => ⟨h _ (List.mem_cons_of_mem _ (List.mem_cons_of_mem _ List.mem_cons_self)), h _ (List.mem_cons_of_mem _ (List.mem_cons_of_mem _ (List.mem_cons_of_mem _ List.mem_cons_self))), _, rfl, by decide +kernel⟩, fun h => absurd h (by decide +kernel)⟩
theorem gc_e116 : (gc_cd 116).all (gc_okE 116) = true := by decide +kernel
theorem gc_h116 : gc_chain (gc_cd 116) = true := by decide +kernel
theorem gc_M116 : gc_okM 116 := by
  have h := gc_inL [Cond.code (gc_mN 116) (gc_mB 116) (gc_mL 116) (gc_mR 116), Cond.initialized (gc_mN 116).cls, Cond.instanceMethod (gc_mN 116), Cond.selects (gc_mN 116).cls (gc_mN 116) (gc_mN 116)] [1177, 150, 1176, 46] (by decide +kernel) (by decide +kernel)
  exact ⟨h _ List.mem_cons_self, h _ (List.mem_cons_of_mem _ List.mem_cons_self), by decide +kernel, by decide +kernel, by decide +kernel, by decide +kernel, by decide +kernel, fun h => absurd h (by decide +kernel), fun _ => ⟨h _ (List.mem_cons_of_mem _ (List.mem_cons_of_mem _ List.mem_cons_self)), h _ (List.mem_cons_of_mem _ (List.mem_cons_of_mem _ (List.mem_cons_of_mem _ List.mem_cons_self))), _, rfl, by decide +kernel⟩, fun h => absurd h (by decide +kernel)⟩
theorem gc_e117 : (gc_cd 117).all (gc_okE 117) = true := by decide +kernel
theorem gc_h117 : gc_chain (gc_cd 117) = true := by decide +kernel
theorem gc_M117 : gc_okM 117 := by
  have h := gc_inL [Cond.code (gc_mN 117) (gc_mB 117) (gc_mL 117) (gc_mR 117), Cond.initialized (gc_mN 117).cls, Cond.instanceMethod (gc_mN 117), Cond.selects (gc_mN 117).cls (gc_mN 117) (gc_mN 117)] [1187, 150, 1185, 1186] (by decide +kernel) (by decide +kernel)
  exact ⟨h _ List.mem_cons_self, h _ (List.mem_cons_of_mem _ List.mem_cons_self), by decide +kernel, by decide +kernel, by decide +kernel, by decide +kernel, by decide +kernel, fun h => absurd h (by decide +kernel), fun _ => ⟨h _ (List.mem_cons_of_mem _ (List.mem_cons_of_mem _ List.mem_cons_self)), h _ (List.mem_cons_of_mem _ (List.mem_cons_of_mem _ (List.mem_cons_of_mem _ List.mem_cons_self))), _, rfl, by decide +kernel⟩, fun h => absurd h (by decide +kernel)⟩
