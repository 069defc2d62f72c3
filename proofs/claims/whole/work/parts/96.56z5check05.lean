/-! The checks, by program. -/
theorem gc_e118 : (gc_cd 118).all (gc_okE 118) = true := by decide +kernel
theorem gc_h118 : gc_chain (gc_cd 118) = true := by decide +kernel
theorem gc_M118 : gc_okM 118 := by
  have h := gc_inL [Cond.code (gc_mN 118) (gc_mB 118) (gc_mL 118) (gc_mR 118), Cond.initialized (gc_mN 118).cls, Cond.instanceMethod (gc_mN 118), Cond.selects (gc_mN 118).cls (gc_mN 118) (gc_mN 118)] [1259, 150, 1257, 1258] (by decide +kernel) (by decide +kernel)
  exact ⟨h _ List.mem_cons_self, h _ (List.mem_cons_of_mem _ List.mem_cons_self), by decide +kernel, by decide +kernel, by decide +kernel, by decide +kernel, by decide +kernel, fun h => absurd h (by decide +kernel), fun _ => ⟨h _ (List.mem_cons_of_mem _ (List.mem_cons_of_mem _ List.mem_cons_self)), h _ (List.mem_cons_of_mem _ (List.mem_cons_of_mem _ (List.mem_cons_of_mem _ List.mem_cons_self))), _, rfl, by decide +kernel⟩, fun h => absurd h (by decide +kernel)⟩
theorem gc_e119 : (gc_cd 119).all (gc_okE 119) = true := by decide +kernel
theorem gc_h119 : gc_chain (gc_cd 119) = true := by decide +kernel
theorem gc_M119 : gc_okM 119 := by
  have h := gc_inL [Cond.code (gc_mN 119) (gc_mB 119) (gc_mL 119) (gc_mR 119), Cond.initialized (gc_mN 119).cls, Cond.instanceMethod (gc_mN 119), Cond.selects (gc_mN 119).cls (gc_mN 119) (gc_mN 119)] [1182, 150, 1180, 1181] (by decide +kernel) (by decide +kernel)
  exact ⟨h _ List.mem_cons_self, h _ (List.mem_cons_of_mem _ List.mem_cons_self), by decide +kernel, by decide +kernel, by decide +kernel, by decide +kernel, by decide +kernel, fun h => absurd h (by decide +kernel), fun _ => ⟨h _ (List.mem_cons_of_mem _ (List.mem_cons_of_mem _ List.mem_cons_self)), h _ (List.mem_cons_of_mem _ (List.mem_cons_of_mem _ (List.mem_cons_of_mem _ List.mem_cons_self))), _, rfl, by decide +kernel⟩, fun h => absurd h (by decide +kernel)⟩
theorem gc_e120 : (gc_cd 120).all (gc_okE 120) = true := by decide +kernel
theorem gc_h120 : gc_chain (gc_cd 120) = true := by decide +kernel
theorem gc_M120 : gc_okM 120 := by
  have h := gc_inL [Cond.code (gc_mN 120) (gc_mB 120) (gc_mL 120) (gc_mR 120), Cond.initialized (gc_mN 120).cls, Cond.instanceMethod (gc_mN 120)] [162, 138, 161] (by decide +kernel) (by decide +kernel)
  exact ⟨h _ List.mem_cons_self, h _ (List.mem_cons_of_mem _ List.mem_cons_self), by decide +kernel, by decide +kernel, by decide +kernel, by decide +kernel, by decide +kernel, fun h => absurd h (by decide +kernel), fun h => absurd h (by decide +kernel), fun _ => ⟨by decide +kernel, h _ (List.mem_cons_of_mem _ (List.mem_cons_of_mem _ List.mem_cons_self)), by decide +kernel⟩⟩
theorem gc_e121 : (gc_cd 121).all (gc_okE 121) = true := by decide +kernel
theorem gc_h121 : gc_chain (gc_cd 121) = true := by decide +kernel
theorem gc_M121 : gc_okM 121 := by
  have h := gc_inL [Cond.code (gc_mN 121) (gc_mB 121) (gc_mL 121) (gc_mR 121), Cond.initialized (gc_mN 121).cls, Cond.instanceMethod (gc_mN 121), Cond.selects (gc_mN 121).cls (gc_mN 121) (gc_mN 121)] [739, 138, 737, 738] (by decide +kernel) (by decide +kernel)
  exact ⟨h _ List.mem_cons_self, h _ (List.mem_cons_of_mem _ List.mem_cons_self), by decide +kernel, by decide +kernel, by decide +kernel, by decide +kernel, by decide +kernel, fun h => absurd h (by decide +kernel), fun _ => ⟨h _ (List.mem_cons_of_mem _ (List.mem_cons_of_mem _ List.mem_cons_self)), h _ (List.mem_cons_of_mem _ (List.mem_cons_of_mem _ (List.mem_cons_of_mem _ List.mem_cons_self))), _, rfl, by decide +kernel⟩, fun h => absurd h (by decide +kernel)⟩
theorem gc_e122 : (gc_cd 122).all (gc_okE 122) = true := by decide +kernel
theorem gc_h122 : gc_chain (gc_cd 122) = true := by decide +kernel
theorem gc_M122 : gc_okM 122 := by
  have h := gc_inL [Cond.code (gc_mN 122) (gc_mB 122) (gc_mL 122) (gc_mR 122), Cond.initialized (gc_mN 122).cls, Cond.instanceMethod (gc_mN 122), Cond.selects (gc_mN 122).cls (gc_mN 122) (gc_mN 122)] [747, 138, 745, 746] (by decide +kernel) (by decide +kernel)
  exact ⟨h _ List.mem_cons_self, h _ (List.mem_cons_of_mem _ List.mem_cons_self), by decide +kernel, by decide +kernel, by decide +kernel, by decide +kernel, by decide +kernel, fun h => absurd h (by decide +kernel), fun _ => ⟨h _ (List.mem_cons_of_mem _ (List.mem_cons_of_mem _ List.mem_cons_self)), h _ (List.mem_cons_of_mem _ (List.mem_cons_of_mem _ (List.mem_cons_of_mem _ List.mem_cons_self))), _, rfl, by decide +kernel⟩, fun h => absurd h (by decide +kernel)⟩
theorem gc_e123 : (gc_cd 123).all (gc_okE 123) = true := by decide +kernel
theorem gc_h123 : gc_chain (gc_cd 123) = true := by decide +kernel
theorem gc_M123 : gc_okM 123 := by
  have h := gc_inL [Cond.code (gc_mN 123) (gc_mB 123) (gc_mL 123) (gc_mR 123), Cond.initialized (gc_mN 123).cls, Cond.instanceMethod (gc_mN 123), Cond.selects (gc_mN 123).cls (gc_mN 123) (gc_mN 123)] [751, 138, 749, 750] (by decide +kernel) (by decide +kernel)
  exact ⟨h _ List.mem_cons_self, h _ (List.mem_cons_of_mem _ List.mem_cons_self), by decide +kernel, by decide +kernel, by decide +kernel, by decide +kernel, by decide +kernel, fun h => absurd h (by decide +kernel), fun _ => ⟨h _ (List.mem_cons_of_mem _ (List.mem_cons_of_mem _ List.mem_cons_self)), h _ (List.mem_cons_of_mem _ (List.mem_cons_of_mem _ (List.mem_cons_of_mem _ List.mem_cons_self))), _, rfl, by decide +kernel⟩, fun h => absurd h (by decide +kernel)⟩
theorem gc_e124 : (gc_cd 124).all (gc_okE 124) = true := by decide +kernel
theorem gc_h124 : gc_chain (gc_cd 124) = true := by decide +kernel
theorem gc_M124 : gc_okM 124 := by
  have h := gc_inL [Cond.code (gc_mN 124) (gc_mB 124) (gc_mL 124) (gc_mR 124), Cond.initialized (gc_mN 124).cls, Cond.instanceMethod (gc_mN 124), Cond.selects (gc_mN 124).cls (gc_mN 124) (gc_mN 124)] [916, 138, 915, 19] (by decide +kernel) (by decide +kernel)
  exact ⟨h _ List.mem_cons_self, h _ (List.mem_cons_of_mem _ List.mem_cons_self), by decide +kernel, by decide +kernel, by decide +kernel, by decide +kernel, by decide +kernel, fun h => absurd h (by decide +kernel), fun _ => ⟨h _ (List.mem_cons_of_mem _ (List.mem_cons_of_mem _ List.mem_cons_self)), h _ (List.mem_cons_of_mem _ (List.mem_cons_of_mem _ (List.mem_cons_of_mem _ List.mem_cons_self))), _, rfl, by decide +kernel⟩, fun h => absurd h (by decide +kernel)⟩
theorem gc_e125 : (gc_cd 125).all (gc_okE 125) = true := by decide +kernel
theorem gc_h125 : gc_chain (gc_cd 125) = true := by decide +kernel
theorem gc_M125 : gc_okM 125 := by
  have h := gc_inL [Cond.code (gc_mN 125) (gc_mB 125) (gc_mL 125) (gc_mR 125), Cond.initialized (gc_mN 125).cls, Cond.instanceMethod (gc_mN 125), Cond.selects (gc_mN 125).cls (gc_mN 125) (gc_mN 125)] [941, 138, 939, 940] (by decide +kernel) (by decide +kernel)
  exact ⟨h _ List.mem_cons_self, h _ (List.mem_cons_of_mem _ List.mem_cons_self), by decide +kernel, by decide +kernel, by decide +kernel, by decide +kernel, by decide +kernel, fun h => absurd h (by decide +kernel), fun _ => ⟨h _ (List.mem_cons_of_mem _ (List.mem_cons_of_mem _ List.mem_cons_self)), h _ (List.mem_cons_of_mem _ (List.mem_cons_of_mem _ (List.mem_cons_of_mem _ List.mem_cons_self))), _, rfl, by decide +kernel⟩, fun h => absurd h (by decide +kernel)⟩
theorem gc_e126 : (gc_cd 126).all (gc_okE 126) = true := by decide +kernel
theorem gc_h126 : gc_chain (gc_cd 126) = true := by decide +kernel
theorem gc_M126 : gc_okM 126 := by
  have h := gc_inL [Cond.code (gc_mN 126) (gc_mB 126) (gc_mL 126) (gc_mR 126), Cond.initialized (gc_mN 126).cls, Cond.instanceMethod (gc_mN 126), Cond.selects (gc_mN 126).cls (gc_mN 126) (gc_mN 126)] [1028, 138, 1026, 1027] (by decide +kernel) (by decide +kernel)
  exact ⟨h _ List.mem_cons_self, h _ (List.mem_cons_of_mem _ List.mem_cons_self), by decide +kernel, by decide +kernel, by decide +kernel, by decide +kernel, by decide +kernel, fun h => absurd h (by decide +kernel), fun _ => ⟨h _ (List.mem_cons_of_mem _ (List.mem_cons_of_mem _ List.mem_cons_self)), h _ (List.mem_cons_of_mem _ (List.mem_cons_of_mem _ (List.mem_cons_of_mem _ List.mem_cons_self))), _, rfl, by decide +kernel⟩, fun h => absurd h (by decide +kernel)⟩
theorem gc_e127 : (gc_cd 127).all (gc_okE 127) = true := by decide +kernel
theorem gc_h127 : gc_chain (gc_cd 127) = true := by decide +kernel
theorem gc_M127 : gc_okM 127 := by
  have h := gc_inL [Cond.code (gc_mN 127) (gc_mB 127) (gc_mL 127) (gc_mR 127), Cond.initialized (gc_mN 127).cls, Cond.instanceMethod (gc_mN 127), Cond.selects (gc_mN 127).cls (gc_mN 127) (gc_mN 127)] [1032, 138, 1030, 1031] (by decide +kernel) (by decide +kernel)
  exact ⟨h _ List.mem_cons_self, h _ (List.mem_cons_of_mem _ List.mem_cons_self), by decide +kernel, by decide +kernel, by decide +kernel, by decide +kernel, by decide +kernel, fun h => absurd h (by decide +kernel), fun _ => ⟨h _ (List.mem_cons_of_mem _ (List.mem_cons_of_mem _ List.mem_cons_self)), h _ (List.mem_cons_of_mem _ (List.mem_cons_of_mem _ (List.mem_cons_of_mem _ List.mem_cons_self))), _, rfl, by decide +kernel⟩, fun h => absurd h (by decide +kernel)⟩
theorem gc_e128 : (gc_cd 128).all (gc_okE 128) = true := by decide +kernel
theorem gc_h128 : gc_chain (gc_cd 128) = true := by decide +kernel
theorem gc_M128 : gc_okM 128 := by
  have h := gc_inL [Cond.code (gc_mN 128) (gc_mB 128) (gc_mL 128) (gc_mR 128), Cond.initialized (gc_mN 128).cls, Cond.instanceMethod (gc_mN 128), Cond.selects (gc_mN 128).cls (gc_mN 128) (gc_mN 128)] [1036, 138, 1034, 1035] (by decide +kernel) (by decide +kernel)
  exact ⟨h _ List.mem_cons_self, h _ (List.mem_cons_of_mem _ List.mem_cons_self), by decide +kernel, by decide +kernel, by decide +kernel, by decide +kernel, by decide +kernel, fun h => absurd h (by decide +kernel), fun _ => ⟨h _ (List.mem_cons_of_mem _ (List.mem_cons_of_mem _ List.mem_cons_self)), h _ (List.mem_cons_of_mem _ (List.mem_cons_of_mem _ (List.mem_cons_of_mem _ List.mem_cons_self))), _, rfl, by decide +kernel⟩, fun h => absurd h (by decide +kernel)⟩
theorem gc_e129 : (gc_cd 129).all (gc_okE 129) = true := by decide +kernel
theorem gc_h129 : gc_chain (gc_cd 129) = true := by decide +kernel
theorem gc_M129 : gc_okM 129 := by
  have h := gc_inL [Cond.code (gc_mN 129) (gc_mB 129) (gc_mL 129) (gc_mR 129), Cond.initialized (gc_mN 129).cls, Cond.instanceMethod (gc_mN 129), Cond.selects (gc_mN 129).cls (gc_mN 129) (gc_mN 129)] [1044, 138, 1042, 1043] (by decide +kernel) (by decide +kernel)
  exact ⟨h _ List.mem_cons_self, h _ (List.mem_cons_of_mem _ List.mem_cons_self), by decide +kernel, by decide +kernel, by decide +kernel, by decide +kernel, by decide +kernel, fun h => absurd h (by decide +kernel), fun _ => ⟨h _ (List.mem_cons_of_mem _ (List.mem_cons_of_mem _ List.mem_cons_self)), h _ (List.mem_cons_of_mem _ (List.mem_cons_of_mem _ (List.mem_cons_of_mem _ List.mem_cons_self))), _, rfl, by decide +kernel⟩, fun h => absurd h (by decide +kernel)⟩
theorem gc_e130 : (gc_cd 130).all (gc_okE 130) = true := by decide +kernel
theorem gc_h130 : gc_chain (gc_cd 130) = true := by decide +kernel
theorem gc_M130 : gc_okM 130 := by
  have h := gc_inL [Cond.code (gc_mN 130) (gc_mB 130) (gc_mL 130) (gc_mR 130), Cond.initialized (gc_mN 130).cls, Cond.instanceMethod (gc_mN 130), Cond.selects (gc_mN 130).cls (gc_mN 130) (gc_mN 130)] [1049, 138, 1047, 1048] (by decide +kernel) (by decide +kernel)
  exact ⟨h _ List.mem_cons_self, h _ (List.mem_cons_of_mem _ List.mem_cons_self), by decide +kernel, by decide +kernel, by decide +kernel, by decide +kernel, by decide +kernel, fun h => absurd h (by decide +kernel), fun _ => ⟨h _ (List.mem_cons_of_mem _ (List.mem_cons_of_mem _ List.mem_cons_self)), h _ (List.mem_cons_of_mem _ (List.mem_cons_of_mem _ (List.mem_cons_of_mem _ List.mem_cons_self))), _, rfl, by decide +kernel⟩, fun h => absurd h (by decide +kernel)⟩
theorem gc_e131 : (gc_cd 131).all (gc_okE 131) = true := by decide +kernel
theorem gc_h131 : gc_chain (gc_cd 131) = true := by decide +kernel
theorem gc_M131 : gc_okM 131 := by
  have h := gc_inL [Cond.code (gc_mN 131) (gc_mB 131) (gc_mL 131) (gc_mR 131), Cond.initialized (gc_mN 131).cls, Cond.instanceMethod (gc_mN 131), Cond.selects (gc_mN 131).cls (gc_mN 131) (gc_mN 131)] [1053, 138, 1051, 1052] (by decide +kernel) (by decide +kernel)
  exact ⟨h _ List.mem_cons_self, h _ (List.mem_cons_of_mem _ List.mem_cons_self), by decide +kernel, by decide +kernel, by decide +kernel, by decide +kernel, by decide +kernel, fun h => absurd h (by decide +kernel), fun _ => ⟨h _ (List.mem_cons_of_mem _ (List.mem_cons_of_mem _ List.mem_cons_self)), h _ (List.mem_cons_of_mem _ (List.mem_cons_of_mem _ (List.mem_cons_of_mem _ List.mem_cons_self))), _, rfl, by decide +kernel⟩, fun h => absurd h (by decide +kernel)⟩
theorem gc_e132 : (gc_cd 132).all (gc_okE 132) = true := by decide +kernel
theorem gc_h132 : gc_chain (gc_cd 132) = true := by decide +kernel
theorem gc_M132 : gc_okM 132 := by
  have h := gc_inL [Cond.code (gc_mN 132) (gc_mB 132) (gc_mL 132) (gc_mR 132), Cond.initialized (gc_mN 132).cls, Cond.instanceMethod (gc_mN 132), Cond.selects (gc_mN 132).cls (gc_mN 132) (gc_mN 132)] [1060, 138, 1058, 1059] (by decide +kernel) (by decide +kernel)
  exact ⟨h _ List.mem_cons_self, h _ (List.mem_cons_of_mem _ List.mem_cons_self), by decide +kernel, by decide +kernel, by decide +kernel, by decide +kernel, by decide +kernel, fun h => absurd h (by decide +kernel), fun _ => ⟨h _ (List.mem_cons_of_mem _ (List.mem_cons_of_mem _ List.mem_cons_self)), h _ (List.mem_cons_of_mem _ (List.mem_cons_of_mem _ (List.mem_cons_of_mem _ List.mem_cons_self))), _, rfl, by decide +kernel⟩, fun h => absurd h (by decide +kernel)⟩
theorem gc_e133 : (gc_cd 133).all (gc_okE 133) = true := by decide +kernel
theorem gc_h133 : gc_chain (gc_cd 133) = true := by decide +kernel
theorem gc_M133 : gc_okM 133 := by
  have h := gc_inL [Cond.code (gc_mN 133) (gc_mB 133) (gc_mL 133) (gc_mR 133), Cond.initialized (gc_mN 133).cls, Cond.instanceMethod (gc_mN 133), Cond.selects (gc_mN 133).cls (gc_mN 133) (gc_mN 133)] [1064, 138, 1062, 1063] (by decide +kernel) (by decide +kernel)
  exact ⟨h _ List.mem_cons_self, h _ (List.mem_cons_of_mem _ List.mem_cons_self), by decide +kernel, by decide +kernel, by decide +kernel, by decide +kernel, by decide +kernel, fun h => absurd h (by decide +kernel), fun _ => ⟨h _ (List.mem_cons_of_mem _ (List.mem_cons_of_mem _ List.mem_cons_self)), h _ (List.mem_cons_of_mem _ (List.mem_cons_of_mem _ (List.mem_cons_of_mem _ List.mem_cons_self))), _, rfl, by decide +kernel⟩, fun h => absurd h (by decide +kernel)⟩
theorem gc_e134 : (gc_cd 134).all (gc_okE 134) = true := by decide +kernel
theorem gc_h134 : gc_chain (gc_cd 134) = true := by decide +kernel
theorem gc_M134 : gc_okM 134 := by
  have h := gc_inL [Cond.code (gc_mN 134) (gc_mB 134) (gc_mL 134) (gc_mR 134), Cond.initialized (gc_mN 134).cls, Cond.instanceMethod (gc_mN 134), Cond.selects (gc_mN 134).cls (gc_mN 134) (gc_mN 134)] [1068, 138, 1066, 1067] (by decide +kernel) (by decide +kernel)
  exact ⟨h _ List.mem_cons_self, h _ (List.mem_cons_of_mem _ List.mem_cons_self), by decide +kernel, by decide +kernel, by decide +kernel, by decide +kernel, by decide +kernel, fun h => absurd h (by decide +kernel), fun _ => ⟨h _ (List.mem_cons_of_mem _ (List.mem_cons_of_mem _ List.mem_cons_self)), h _ (List.mem_cons_of_mem _ (List.mem_cons_of_mem _ (List.mem_cons_of_mem _ List.mem_cons_self))), _, rfl, by decide +kernel⟩, fun h => absurd h (by decide +kernel)⟩
theorem gc_e135 : (gc_cd 135).all (gc_okE 135) = true := by decide +kernel
theorem gc_h135 : gc_chain (gc_cd 135) = true := by decide +kernel
theorem gc_M135 : gc_okM 135 := by
  have h := gc_inL [Cond.code (gc_mN 135) (gc_mB 135) (gc_mL 135) (gc_mR 135), Cond.initialized (gc_mN 135).cls, Cond.instanceMethod (gc_mN 135), Cond.selects (gc_mN 135).cls (gc_mN 135) (gc_mN 135)] [1072, 138, 1070, 1071] (by decide +kernel) (by decide +kernel)
  exact ⟨h _ List.mem_cons_self, h _ (List.mem_cons_of_mem _ List.mem_cons_self), by decide +kernel, by decide +kernel, by decide +kernel, by decide +kernel, by decide +kernel, fun h => absurd h (by decide +kernel), fun _ => ⟨h _ (List.mem_cons_of_mem _ (List.mem_cons_of_mem _ List.mem_cons_self)), h _ (List.mem_cons_of_mem _ (List.mem_cons_of_mem _ (List.mem_cons_of_mem _ List.mem_cons_self))), _, rfl, by decide +kernel⟩, fun h => absurd h (by decide +kernel)⟩
theorem gc_e136 : (gc_cd 136).all (gc_okE 136) = true := by decide +kernel
theorem gc_h136 : gc_chain (gc_cd 136) = true := by decide +kernel
theorem gc_M136 : gc_okM 136 := by
  have h := gc_inL [Cond.code (gc_mN 136) (gc_mB 136) (gc_mL 136) (gc_mR 136), Cond.initialized (gc_mN 136).cls, Cond.instanceMethod (gc_mN 136), Cond.selects (gc_mN 136).cls (gc_mN 136) (gc_mN 136)] [1156, 138, 1154, 1155] (by decide +kernel) (by decide +kernel)
  exact ⟨h _ List.mem_cons_self, h _ (List.mem_cons_of_mem _ List.mem_cons_self), by decide +kernel, by decide +kernel, by decide +kernel, by decide +kernel, by decide +kernel, fun h => absurd h (by decide +kernel), fun _ => ⟨h _ (List.mem_cons_of_mem _ (List.mem_cons_of_mem _ List.mem_cons_self)), h _ (List.mem_cons_of_mem _ (List.mem_cons_of_mem _ (List.mem_cons_of_mem _ List.mem_cons_self))), _, rfl, by decide +kernel⟩, fun h => absurd h (by decide +kernel)⟩
theorem gc_e137 : (gc_cd 137).all (gc_okE 137) = true := by decide +kernel
theorem gc_h137 : gc_chain (gc_cd 137) = true := by decide +kernel
theorem gc_M137 : gc_okM 137 := by
  have h := gc_inL [Cond.code (gc_mN 137) (gc_mB 137) (gc_mL 137) (gc_mR 137), Cond.initialized (gc_mN 137).cls, Cond.instanceMethod (gc_mN 137), Cond.selects (gc_mN 137).cls (gc_mN 137) (gc_mN 137)] [1164, 138, 1162, 1163] (by decide +kernel) (by decide +kernel)
  exact ⟨h _ List.mem_cons_self, h _ (List.mem_cons_of_mem _ List.mem_cons_self), by decide +kernel, by decide +kernel, by decide +kernel, by decide +kernel, by decide +kernel, fun h => absurd h (by decide +kernel), fun _ => ⟨h _ (List.mem_cons_of_mem _ (List.mem_cons_of_mem _ List.mem_cons_self)), h _ (List.mem_cons_of_mem _ (List.mem_cons_of_mem _ (List.mem_cons_of_mem _ List.mem_cons_self))), _, rfl, by decide +kernel⟩, fun h => absurd h (by decide +kernel)⟩
theorem gc_e138 : (gc_cd 138).all (gc_okE 138) = true := by decide +kernel
theorem gc_h138 : gc_chain (gc_cd 138) = true := by decide +kernel
theorem gc_M138 : gc_okM 138 := by
  have h := gc_inL [Cond.code (gc_mN 138) (gc_mB 138) (gc_mL 138) (gc_mR 138), Cond.initialized (gc_mN 138).cls, Cond.instanceMethod (gc_mN 138), Cond.selects (gc_mN 138).cls (gc_mN 138) (gc_mN 138)] [1169, 138, 1167, 1168] (by decide +kernel) (by decide +kernel)
  exact ⟨h _ List.mem_cons_self, h _ (List.mem_cons_of_mem _ List.mem_cons_self), by decide +kernel, by decide +kernel, by decide +kernel, by decide +kernel, by decide +kernel, fun h => absurd h (by decide +kernel), fun _ => ⟨h _ (List.mem_cons_of_mem _ (List.mem_cons_of_mem _ List.mem_cons_self)), h _ (List.mem_cons_of_mem _ (List.mem_cons_of_mem _ (List.mem_cons_of_mem _ List.mem_cons_self))), _, rfl, by decide +kernel⟩, fun h => absurd h (by decide +kernel)⟩
theorem gc_e139 : (gc_cd 139).all (gc_okE 139) = true := by decide +kernel
theorem gc_h139 : gc_chain (gc_cd 139) = true := by decide +kernel
theorem gc_M139 : gc_okM 139 := by
  have h := gc_inL [Cond.code (gc_mN 139) (gc_mB 139) (gc_mL 139) (gc_mR 139), Cond.initialized (gc_mN 139).cls, Cond.instanceMethod (gc_mN 139), Cond.selects (gc_mN 139).cls (gc_mN 139) (gc_mN 139)] [1270, 138, 1268, 1269] (by decide +kernel) (by decide +kernel)
  exact ⟨h _ List.mem_cons_self, h _ (List.mem_cons_of_mem _ List.mem_cons_self), by decide +kernel, by decide +kernel, by decide +kernel, by decide +kernel, by decide +kernel, fun h => absurd h (by decide +kernel), fun _ => ⟨h _ (List.mem_cons_of_mem _ (List.mem_cons_of_mem _ List.mem_cons_self)), h _ (List.mem_cons_of_mem _ (List.mem_cons_of_mem _ (List.mem_cons_of_mem _ List.mem_cons_self))), _, rfl, by decide +kernel⟩, fun h => absurd h (by decide +kernel)⟩
theorem gc_e140 : (gc_cd 140).all (gc_okE 140) = true := by decide +kernel
theorem gc_h140 : gc_chain (gc_cd 140) = true := by decide +kernel
theorem gc_M140 : gc_okM 140 := by
  have h := gc_inL [Cond.code (gc_mN 140) (gc_mB 140) (gc_mL 140) (gc_mR 140), Cond.initialized (gc_mN 140).cls, Cond.instanceMethod (gc_mN 140), Cond.selects (gc_mN 140).cls (gc_mN 140) (gc_mN 140)] [1282, 138, 1280, 1281] (by decide +kernel) (by decide +kernel)
  exact ⟨h _ List.mem_cons_self, h _ (List.mem_cons_of_mem _ List.mem_cons_self), by decide +kernel, by decide +kernel, by decide +kernel, by decide +kernel, by decide +kernel, fun h => absurd h (by decide +kernel), fun _ => ⟨h _ (List.mem_cons_of_mem _ (List.mem_cons_of_mem _ List.mem_cons_self)), h _ (List.mem_cons_of_mem _ (List.mem_cons_of_mem _ (List.mem_cons_of_mem _ List.mem_cons_self))), _, rfl, by decide +kernel⟩, fun h => absurd h (by decide +kernel)⟩
theorem gc_e141 : (gc_cd 141).all (gc_okE 141) = true := by decide +kernel
theorem gc_h141 : gc_chain (gc_cd 141) = true := by decide +kernel
theorem gc_M141 : gc_okM 141 := by
  have h := gc_inL [Cond.code (gc_mN 141) (gc_mB 141) (gc_mL 141) (gc_mR 141), Cond.initialized (gc_mN 141).cls, Cond.instanceMethod (gc_mN 141), Cond.selects (gc_mN 141).cls (gc_mN 141) (gc_mN 141)] [1288, 138, 1286, 1287] (by decide +kernel) (by decide +kernel)
  exact ⟨h _ List.mem_cons_self, h _ (List.mem_cons_of_mem _ List.mem_cons_self), by decide +kernel, by decide +kernel, by decide +kernel, by decide +kernel, by decide +kernel, fun h => absurd h (by decide +kernel), fun _ => ⟨h _ (List.mem_cons_of_mem _ (List.mem_cons_of_mem _ List.mem_cons_self)), h _ (List.mem_cons_of_mem _ (List.mem_cons_of_mem _ (List.mem_cons_of_mem _ List.mem_cons_self))), _, rfl, by decide +kernel⟩, fun h => absurd h (by decide +kernel)⟩
theorem gc_e142 : (gc_cd 142).all (gc_okE 142) = true := by decide +kernel
theorem gc_h142 : gc_chain (gc_cd 142) = true := by decide +kernel
theorem gc_M142 : gc_okM 142 := by
  have h := gc_inL [Cond.code (gc_mN 142) (gc_mB 142) (gc_mL 142) (gc_mR 142), Cond.initialized (gc_mN 142).cls, Cond.instanceMethod (gc_mN 142), Cond.selects (gc_mN 142).cls (gc_mN 142) (gc_mN 142)] [1298, 138, 1296, 1297] (by decide +kernel) (by decide +kernel)
  exact ⟨h _ List.mem_cons_self, h _ (List.mem_cons_of_mem _ List.mem_cons_self), by decide +kernel, by decide +kernel, by decide +kernel, by decide +kernel, by decide +kernel, fun h => absurd h (by decide +kernel), fun _ => ⟨h _ (List.mem_cons_of_mem _ (List.mem_cons_of_mem _ List.mem_cons_self)), h _ (List.mem_cons_of_mem _ (List.mem_cons_of_mem _ (List.mem_cons_of_mem _ List.mem_cons_self))), _, rfl, by decide +kernel⟩, fun h => absurd h (by decide +kernel)⟩
theorem gc_e143 : (gc_cd 143).all (gc_okE 143) = true := by decide +kernel
theorem gc_h143 : gc_chain (gc_cd 143) = true := by decide +kernel
theorem gc_M143 : gc_okM 143 := by
  have h := gc_inL [Cond.code (gc_mN 143) (gc_mB 143) (gc_mL 143) (gc_mR 143), Cond.initialized (gc_mN 143).cls, Cond.instanceMethod (gc_mN 143), Cond.selects (gc_mN 143).cls (gc_mN 143) (gc_mN 143)] [1310, 138, 1308, 1309] (by decide +kernel) (by decide +kernel)
  exact ⟨h _ List.mem_cons_self, h _ (List.mem_cons_of_mem _ List.mem_cons_self), by decide +kernel, by decide +kernel, by decide +kernel, by decide +kernel, by decide +kernel, fun h => absurd h (by decide +kernel), fun _ => ⟨h _ (List.mem_cons_of_mem _ (List.mem_cons_of_mem _ List.mem_cons_self)), h _ (List.mem_cons_of_mem _ (List.mem_cons_of_mem _ (List.mem_cons_of_mem _ List.mem_cons_self))), _, rfl, by decide +kernel⟩, fun h => absurd h (by decide +kernel)⟩
