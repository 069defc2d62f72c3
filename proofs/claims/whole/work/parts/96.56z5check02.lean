/-! The checks, by program. -/
theorem gc_e49 : (gc_cd 49).all (gc_okE 49) = true := by decide +kernel
theorem gc_h49 : gc_chain (gc_cd 49) = true := by decide +kernel
theorem gc_M49 : gc_okM 49 := by
  have h := gc_inL [Cond.code (gc_mN 49) (gc_mB 49) (gc_mL 49) (gc_mR 49), Cond.initialized (gc_mN 49).cls, Cond.instanceMethod (gc_mN 49), Cond.selects (gc_mN 49).cls (gc_mN 49) (gc_mN 49)] [1199, 149, 1198, 48] (by decide +kernel) (by decide +kernel)
  exact ⟨h _ List.mem_cons_self, h _ (List.mem_cons_of_mem _ List.mem_cons_self), by decide +kernel, by decide +kernel, by decide +kernel, by decide +kernel, by decide +kernel, fun h => absurd h (by decide +kernel), fun _ => ⟨h _ (List.mem_cons_of_mem _ (List.mem_cons_of_mem _ List.mem_cons_self)), h _ (List.mem_cons_of_mem _ (List.mem_cons_of_mem _ (List.mem_cons_of_mem _ List.mem_cons_self))), _, rfl, by decide +kernel⟩, fun h => absurd h (by decide +kernel)⟩
theorem gc_e50 : (gc_cd 50).all (gc_okE 50) = true := by decide +kernel
theorem gc_h50 : gc_chain (gc_cd 50) = true := by decide +kernel
theorem gc_M50 : gc_okM 50 := by
  have h := gc_inL [Cond.code (gc_mN 50) (gc_mB 50) (gc_mL 50) (gc_mR 50), Cond.initialized (gc_mN 50).cls, Cond.instanceMethod (gc_mN 50), Cond.selects (gc_mN 50).cls (gc_mN 50) (gc_mN 50)] [1220, 149, 1219, 49] (by decide +kernel) (by decide +kernel)
  exact ⟨h _ List.mem_cons_self, h _ (List.mem_cons_of_mem _ List.mem_cons_self), by decide +kernel, by decide +kernel, by decide +kernel, by decide +kernel, by decide +kernel, fun h => absurd h (by decide +kernel), fun _ => ⟨h _ (List.mem_cons_of_mem _ (List.mem_cons_of_mem _ List.mem_cons_self)), h _ (List.mem_cons_of_mem _ (List.mem_cons_of_mem _ (List.mem_cons_of_mem _ List.mem_cons_self))), _, rfl, by decide +kernel⟩, fun h => absurd h (by decide +kernel)⟩
theorem gc_e51 : (gc_cd 51).all (gc_okE 51) = true := by decide +kernel
theorem gc_h51 : gc_chain (gc_cd 51) = true := by decide +kernel
theorem gc_M51 : gc_okM 51 := by
  have h := gc_inL [Cond.code (gc_mN 51) (gc_mB 51) (gc_mL 51) (gc_mR 51), Cond.initialized (gc_mN 51).cls, Cond.instanceMethod (gc_mN 51), Cond.selects (gc_mN 51).cls (gc_mN 51) (gc_mN 51)] [1226, 149, 1225, 50] (by decide +kernel) (by decide +kernel)
  exact ⟨h _ List.mem_cons_self, h _ (List.mem_cons_of_mem _ List.mem_cons_self), by decide +kernel, by decide +kernel, by decide +kernel, by decide +kernel, by decide +kernel, fun h => absurd h (by decide +kernel), fun _ => ⟨h _ (List.mem_cons_of_mem _ (List.mem_cons_of_mem _ List.mem_cons_self)), h _ (List.mem_cons_of_mem _ (List.mem_cons_of_mem _ (List.mem_cons_of_mem _ List.mem_cons_self))), _, rfl, by decide +kernel⟩, fun h => absurd h (by decide +kernel)⟩
theorem gc_e52 : (gc_cd 52).all (gc_okE 52) = true := by decide +kernel
theorem gc_h52 : gc_chain (gc_cd 52) = true := by decide +kernel
theorem gc_M52 : gc_okM 52 := by
  have h := gc_inL [Cond.code (gc_mN 52) (gc_mB 52) (gc_mL 52) (gc_mR 52), Cond.initialized (gc_mN 52).cls, Cond.instanceMethod (gc_mN 52), Cond.selects (gc_mN 52).cls (gc_mN 52) (gc_mN 52)] [1216, 149, 1214, 1215] (by decide +kernel) (by decide +kernel)
  exact ⟨h _ List.mem_cons_self, h _ (List.mem_cons_of_mem _ List.mem_cons_self), by decide +kernel, by decide +kernel, by decide +kernel, by decide +kernel, by decide +kernel, fun h => absurd h (by decide +kernel), fun _ => ⟨h _ (List.mem_cons_of_mem _ (List.mem_cons_of_mem _ List.mem_cons_self)), h _ (List.mem_cons_of_mem _ (List.mem_cons_of_mem _ (List.mem_cons_of_mem _ List.mem_cons_self))), _, rfl, by decide +kernel⟩, fun h => absurd h (by decide +kernel)⟩
theorem gc_e53 : (gc_cd 53).all (gc_okE 53) = true := by decide +kernel
theorem gc_h53 : gc_chain (gc_cd 53) = true := by decide +kernel
theorem gc_M53 : gc_okM 53 := by
  have h := gc_inL [Cond.code (gc_mN 53) (gc_mB 53) (gc_mL 53) (gc_mR 53), Cond.initialized (gc_mN 53).cls, Cond.instanceMethod (gc_mN 53), Cond.selects (gc_mN 53).cls (gc_mN 53) (gc_mN 53)] [1230, 149, 1228, 1229] (by decide +kernel) (by decide +kernel)
  exact ⟨h _ List.mem_cons_self, h _ (List.mem_cons_of_mem _ List.mem_cons_self), by decide +kernel, by decide +kernel, by decide +kernel, by decide +kernel, by decide +kernel, fun h => absurd h (by decide +kernel), fun _ => ⟨h _ (List.mem_cons_of_mem _ (List.mem_cons_of_mem _ List.mem_cons_self)), h _ (List.mem_cons_of_mem _ (List.mem_cons_of_mem _ (List.mem_cons_of_mem _ List.mem_cons_self))), _, rfl, by decide +kernel⟩, fun h => absurd h (by decide +kernel)⟩
theorem gc_e54 : (gc_cd 54).all (gc_okE 54) = true := by decide +kernel
theorem gc_h54 : gc_chain (gc_cd 54) = true := by decide +kernel
theorem gc_M54 : gc_okM 54 := by
  have h := gc_inL [Cond.code (gc_mN 54) (gc_mB 54) (gc_mL 54) (gc_mR 54), Cond.initialized (gc_mN 54).cls, Cond.instanceMethod (gc_mN 54), Cond.selects (gc_mN 54).cls (gc_mN 54) (gc_mN 54)] [1234, 149, 1233, 51] (by decide +kernel) (by decide +kernel)
  exact ⟨h _ List.mem_cons_self, h _ (List.mem_cons_of_mem _ List.mem_cons_self), by decide +kernel, by decide +kernel, by decide +kernel, by decide +kernel, by decide +kernel, fun h => absurd h (by decide +kernel), fun _ => ⟨h _ (List.mem_cons_of_mem _ (List.mem_cons_of_mem _ List.mem_cons_self)), h _ (List.mem_cons_of_mem _ (List.mem_cons_of_mem _ (List.mem_cons_of_mem _ List.mem_cons_self))), _, rfl, by decide +kernel⟩, fun h => absurd h (by decide +kernel)⟩
theorem gc_e55 : (gc_cd 55).all (gc_okE 55) = true := by decide +kernel
theorem gc_h55 : gc_chain (gc_cd 55) = true := by decide +kernel
theorem gc_M55 : gc_okM 55 := by
  have h := gc_inL [Cond.code (gc_mN 55) (gc_mB 55) (gc_mL 55) (gc_mR 55), Cond.initialized (gc_mN 55).cls, Cond.instanceMethod (gc_mN 55), Cond.selects (gc_mN 55).cls (gc_mN 55) (gc_mN 55)] [1238, 149, 1237, 52] (by decide +kernel) (by decide +kernel)
  exact ⟨h _ List.mem_cons_self, h _ (List.mem_cons_of_mem _ List.mem_cons_self), by decide +kernel, by decide +kernel, by decide +kernel, by decide +kernel, by decide +kernel, fun h => absurd h (by decide +kernel), fun _ => ⟨h _ (List.mem_cons_of_mem _ (List.mem_cons_of_mem _ List.mem_cons_self)), h _ (List.mem_cons_of_mem _ (List.mem_cons_of_mem _ (List.mem_cons_of_mem _ List.mem_cons_self))), _, rfl, by decide +kernel⟩, fun h => absurd h (by decide +kernel)⟩
theorem gc_e56 : (gc_cd 56).all (gc_okE 56) = true := by decide +kernel
theorem gc_h56 : gc_chain (gc_cd 56) = true := by decide +kernel
theorem gc_M56 : gc_okM 56 := by
  have h := gc_inL [Cond.code (gc_mN 56) (gc_mB 56) (gc_mL 56) (gc_mR 56), Cond.initialized (gc_mN 56).cls, Cond.instanceMethod (gc_mN 56), Cond.selects (gc_mN 56).cls (gc_mN 56) (gc_mN 56)] [1242, 149, 1241, 53] (by decide +kernel) (by decide +kernel)
  exact ⟨h _ List.mem_cons_self, h _ (List.mem_cons_of_mem _ List.mem_cons_self), by decide +kernel, by decide +kernel, by decide +kernel, by decide +kernel, by decide +kernel, fun h => absurd h (by decide +kernel), fun _ => ⟨h _ (List.mem_cons_of_mem _ (List.mem_cons_of_mem _ List.mem_cons_self)), h _ (List.mem_cons_of_mem _ (List.mem_cons_of_mem _ (List.mem_cons_of_mem _ List.mem_cons_self))), _, rfl, by decide +kernel⟩, fun h => absurd h (by decide +kernel)⟩
theorem gc_e57 : (gc_cd 57).all (gc_okE 57) = true := by decide +kernel
theorem gc_h57 : gc_chain (gc_cd 57) = true := by decide +kernel
theorem gc_M57 : gc_okM 57 := by
  have h := gc_inL [Cond.code (gc_mN 57) (gc_mB 57) (gc_mL 57) (gc_mR 57), Cond.initialized (gc_mN 57).cls, Cond.instanceMethod (gc_mN 57), Cond.selects (gc_mN 57).cls (gc_mN 57) (gc_mN 57)] [1246, 149, 1245, 54] (by decide +kernel) (by decide +kernel)
  exact ⟨h _ List.mem_cons_self, h _ (List.mem_cons_of_mem _ List.mem_cons_self), by decide +kernel, by decide +kernel, by decide +kernel, by decide +kernel, by decide +kernel, fun h => absurd h (by decide +kernel), fun _ => ⟨h _ (List.mem_cons_of_mem _ (List.mem_cons_of_mem _ List.mem_cons_self)), h _ (List.mem_cons_of_mem _ (List.mem_cons_of_mem _ (List.mem_cons_of_mem _ List.mem_cons_self))), _, rfl, by decide +kernel⟩, fun h => absurd h (by decide +kernel)⟩
theorem gc_e58 : (gc_cd 58).all (gc_okE 58) = true := by decide +kernel
theorem gc_h58 : gc_chain (gc_cd 58) = true := by decide +kernel
theorem gc_M58 : gc_okM 58 := by
  have h := gc_inL [Cond.code (gc_mN 58) (gc_mB 58) (gc_mL 58) (gc_mR 58), Cond.initialized (gc_mN 58).cls, Cond.instanceMethod (gc_mN 58), Cond.selects (gc_mN 58).cls (gc_mN 58) (gc_mN 58)] [1250, 149, 1249, 55] (by decide +kernel) (by decide +kernel)
  exact ⟨h _ List.mem_cons_self, h _ (List.mem_cons_of_mem _ List.mem_cons_self), by decide +kernel, by decide +kernel, by decide +kernel, by decide +kernel, by decide +kernel, fun h => absurd h (by decide +kernel), fun _ => ⟨h _ (List.mem_cons_of_mem _ (List.mem_cons_of_mem _ List.mem_cons_self)), h _ (List.mem_cons_of_mem _ (List.mem_cons_of_mem _ (List.mem_cons_of_mem _ List.mem_cons_self))), _, rfl, by decide +kernel⟩, fun h => absurd h (by decide +kernel)⟩
theorem gc_e59 : (gc_cd 59).all (gc_okE 59) = true := by decide +kernel
theorem gc_h59 : gc_chain (gc_cd 59) = true := by decide +kernel
theorem gc_M59 : gc_okM 59 := by
  have h := gc_inL [Cond.code (gc_mN 59) (gc_mB 59) (gc_mL 59) (gc_mR 59), Cond.initialized (gc_mN 59).cls, Cond.instanceMethod (gc_mN 59), Cond.selects (gc_mN 59).cls (gc_mN 59) (gc_mN 59)] [1254, 149, 1252, 1253] (by decide +kernel) (by decide +kernel)
  exact ⟨h _ List.mem_cons_self, h _ (List.mem_cons_of_mem _ List.mem_cons_self), by decide +kernel, by decide +kernel, by decide +kernel, by decide +kernel, by decide +kernel, fun h => absurd h (by decide +kernel), fun _ => ⟨h _ (List.mem_cons_of_mem _ (List.mem_cons_of_mem _ List.mem_cons_self)), h _ (List.mem_cons_of_mem _ (List.mem_cons_of_mem _ (List.mem_cons_of_mem _ List.mem_cons_self))), _, rfl, by decide +kernel⟩, fun h => absurd h (by decide +kernel)⟩
theorem gc_e60 : (gc_cd 60).all (gc_okE 60) = true := by decide +kernel
theorem gc_h60 : gc_chain (gc_cd 60) = true := by decide +kernel
theorem gc_M60 : gc_okM 60 := by
  have h := gc_inL [Cond.code (gc_mN 60) (gc_mB 60) (gc_mL 60) (gc_mR 60), Cond.initialized (gc_mN 60).cls, Cond.instanceMethod (gc_mN 60), Cond.selects (gc_mN 60).cls (gc_mN 60) (gc_mN 60)] [1294, 149, 1292, 1293] (by decide +kernel) (by decide +kernel)
  exact ⟨h _ List.mem_cons_self, h _ (List.mem_cons_of_mem _ List.mem_cons_self), by decide +kernel, by decide +kernel, by decide +kernel, by decide +kernel, by decide +kernel, fun h => absurd h (by decide +kernel), fun _ => ⟨h _ (List.mem_cons_of_mem _ (List.mem_cons_of_mem _ List.mem_cons_self)), h _ (List.mem_cons_of_mem _ (List.mem_cons_of_mem _ (List.mem_cons_of_mem _ List.mem_cons_self))), _, rfl, by decide +kernel⟩, fun h => absurd h (by decide +kernel)⟩
theorem gc_e61 : (gc_cd 61).all (gc_okE 61) = true := by decide +kernel
theorem gc_h61 : gc_chain (gc_cd 61) = true := by decide +kernel
theorem gc_M61 : gc_okM 61 := by
  have h := gc_inL [Cond.code (gc_mN 61) (gc_mB 61) (gc_mL 61) (gc_mR 61), Cond.initialized (gc_mN 61).cls, Cond.instanceMethod (gc_mN 61), Cond.selects (gc_mN 61).cls (gc_mN 61) (gc_mN 61)] [1211, 149, 1209, 1210] (by decide +kernel) (by decide +kernel)
  exact ⟨h _ List.mem_cons_self, h _ (List.mem_cons_of_mem _ List.mem_cons_self), by decide +kernel, by decide +kernel, by decide +kernel, by decide +kernel, by decide +kernel, fun h => absurd h (by decide +kernel), fun _ => ⟨h _ (List.mem_cons_of_mem _ (List.mem_cons_of_mem _ List.mem_cons_self)), h _ (List.mem_cons_of_mem _ (List.mem_cons_of_mem _ (List.mem_cons_of_mem _ List.mem_cons_self))), _, rfl, by decide +kernel⟩, fun h => absurd h (by decide +kernel)⟩
theorem gc_e62 : (gc_cd 62).all (gc_okE 62) = true := by decide +kernel
theorem gc_h62 : gc_chain (gc_cd 62) = true := by decide +kernel
theorem gc_M62 : gc_okM 62 := by
  have h := gc_inL [Cond.code (gc_mN 62) (gc_mB 62) (gc_mL 62) (gc_mR 62), Cond.initialized (gc_mN 62).cls, Cond.instanceMethod (gc_mN 62), Cond.selects (gc_mN 62).cls (gc_mN 62) (gc_mN 62)] [1263, 149, 1261, 1262] (by decide +kernel) (by decide +kernel)
  exact ⟨h _ List.mem_cons_self, h _ (List.mem_cons_of_mem _ List.mem_cons_self), by decide +kernel, by decide +kernel, by decide +kernel, by decide +kernel, by decide +kernel, fun h => absurd h (by decide +kernel), fun _ => ⟨h _ (List.mem_cons_of_mem _ (List.mem_cons_of_mem _ List.mem_cons_self)), h _ (List.mem_cons_of_mem _ (List.mem_cons_of_mem _ (List.mem_cons_of_mem _ List.mem_cons_self))), _, rfl, by decide +kernel⟩, fun h => absurd h (by decide +kernel)⟩
theorem gc_e63 : (gc_cd 63).all (gc_okE 63) = true := by decide +kernel
theorem gc_h63 : gc_chain (gc_cd 63) = true := by decide +kernel
theorem gc_M63 : gc_okM 63 := by
  have h := gc_inL [Cond.code (gc_mN 63) (gc_mB 63) (gc_mL 63) (gc_mR 63), Cond.initialized (gc_mN 63).cls, Cond.instanceMethod (gc_mN 63), Cond.selects (gc_mN 63).cls (gc_mN 63) (gc_mN 63)] [1278, 149, 1276, 1277] (by decide +kernel) (by decide +kernel)
  exact ⟨h _ List.mem_cons_self, h _ (List.mem_cons_of_mem _ List.mem_cons_self), by decide +kernel, by decide +kernel, by decide +kernel, by decide +kernel, by decide +kernel, fun h => absurd h (by decide +kernel), fun _ => ⟨h _ (List.mem_cons_of_mem _ (List.mem_cons_of_mem _ List.mem_cons_self)), h _ (List.mem_cons_of_mem _ (List.mem_cons_of_mem _ (List.mem_cons_of_mem _ List.mem_cons_self))), _, rfl, by decide +kernel⟩, fun h => absurd h (by decide +kernel)⟩
theorem gc_e64 : (gc_cd 64).all (gc_okE 64) = true := by decide +kernel
theorem gc_h64 : gc_chain (gc_cd 64) = true := by decide +kernel
theorem gc_M64 : gc_okM 64 := by
  have h := gc_inL [Cond.code (gc_mN 64) (gc_mB 64) (gc_mL 64) (gc_mR 64), Cond.initialized (gc_mN 64).cls, Cond.instanceMethod (gc_mN 64)] [626, 151, 625] (by decide +kernel) (by decide +kernel)
  exact ⟨h _ List.mem_cons_self, h _ (List.mem_cons_of_mem _ List.mem_cons_self), by decide +kernel, by decide +kernel, by decide +kernel, by decide +kernel, by decide +kernel, fun h => absurd h (by decide +kernel), fun h => absurd h (by decide +kernel), fun _ => ⟨by decide +kernel, h _ (List.mem_cons_of_mem _ (List.mem_cons_of_mem _ List.mem_cons_self)), by decide +kernel⟩⟩
theorem gc_e65 : (gc_cd 65).all (gc_okE 65) = true := by decide +kernel
theorem gc_h65 : gc_chain (gc_cd 65) = true := by decide +kernel
theorem gc_M65 : gc_okM 65 := by
  have h := gc_inL [Cond.code (gc_mN 65) (gc_mB 65) (gc_mL 65) (gc_mR 65), Cond.initialized (gc_mN 65).cls, Cond.instanceMethod (gc_mN 65), Cond.selects (gc_mN 65).cls (gc_mN 65) (gc_mN 65)] [1318, 151, 1316, 1317] (by decide +kernel) (by decide +kernel)
  exact ⟨h _ List.mem_cons_self, h _ (List.mem_cons_of_mem _ List.mem_cons_self), by decide +kernel, by decide +kernel, by decide +kernel, by decide +kernel, by decide +kernel, fun h => absurd h (by decide +kernel), fun _ => ⟨h _ (List.mem_cons_of_mem _ (List.mem_cons_of_mem _ List.mem_cons_self)), h _ (List.mem_cons_of_mem _ (List.mem_cons_of_mem _ (List.mem_cons_of_mem _ List.mem_cons_self))), _, rfl, by decide +kernel⟩, fun h => absurd h (by decide +kernel)⟩
theorem gc_e66 : (gc_cd 66).all (gc_okE 66) = true := by decide +kernel
theorem gc_h66 : gc_chain (gc_cd 66) = true := by decide +kernel
theorem gc_M66 : gc_okM 66 := by
  have h := gc_inL [Cond.code (gc_mN 66) (gc_mB 66) (gc_mL 66) (gc_mR 66), Cond.initialized (gc_mN 66).cls, Cond.static (gc_mN 66)] [1333, 151, 1332] (by decide +kernel) (by decide +kernel)
  exact ⟨h _ List.mem_cons_self, h _ (List.mem_cons_of_mem _ List.mem_cons_self), by decide +kernel, by decide +kernel, by decide +kernel, by decide +kernel, by decide +kernel, fun _ => h _ (List.mem_cons_of_mem _ (List.mem_cons_of_mem _ List.mem_cons_self)), fun h => absurd h (by decide +kernel), fun h => absurd h (by decide +kernel)⟩
theorem gc_e67 : (gc_cd 67).all (gc_okE 67) = true := by decide +kernel
theorem gc_h67 : gc_chain (gc_cd 67) = true := by decide +kernel
theorem gc_M67 : gc_okM 67 := by
  have h := gc_inL [Cond.code (gc_mN 67) (gc_mB 67) (gc_mL 67) (gc_mR 67), Cond.initialized (gc_mN 67).cls, Cond.instanceMethod (gc_mN 67), Cond.selects (gc_mN 67).cls (gc_mN 67) (gc_mN 67)] [1358, 151, 1357, 61] (by decide +kernel) (by decide +kernel)
  exact ⟨h _ List.mem_cons_self, h _ (List.mem_cons_of_mem _ List.mem_cons_self), by decide +kernel, by decide +kernel, by decide +kernel, by decide +kernel, by decide +kernel, fun h => absurd h (by decide +kernel), fun _ => ⟨h _ (List.mem_cons_of_mem _ (List.mem_cons_of_mem _ List.mem_cons_self)), h _ (List.mem_cons_of_mem _ (List.mem_cons_of_mem _ (List.mem_cons_of_mem _ List.mem_cons_self))), _, rfl, by decide +kernel⟩, fun h => absurd h (by decide +kernel)⟩
theorem gc_e68 : (gc_cd 68).all (gc_okE 68) = true := by decide +kernel
theorem gc_h68 : gc_chain (gc_cd 68) = true := by decide +kernel
theorem gc_M68 : gc_okM 68 := by
  have h := gc_inL [Cond.code (gc_mN 68) (gc_mB 68) (gc_mL 68) (gc_mR 68), Cond.initialized (gc_mN 68).cls, Cond.instanceMethod (gc_mN 68), Cond.selects (gc_mN 68).cls (gc_mN 68) (gc_mN 68)] [1330, 151, 1329, 58] (by decide +kernel) (by decide +kernel)
  exact ⟨h _ List.mem_cons_self, h _ (List.mem_cons_of_mem _ List.mem_cons_self), by decide +kernel, by decide +kernel, by decide +kernel, by decide +kernel, by decide +kernel, fun h => absurd h (by decide +kernel), fun _ => ⟨h _ (List.mem_cons_of_mem _ (List.mem_cons_of_mem _ List.mem_cons_self)), h _ (List.mem_cons_of_mem _ (List.mem_cons_of_mem _ (List.mem_cons_of_mem _ List.mem_cons_self))), _, rfl, by decide +kernel⟩, fun h => absurd h (by decide +kernel)⟩
theorem gc_e69 : (gc_cd 69).all (gc_okE 69) = true := by decide +kernel
theorem gc_h69 : gc_chain (gc_cd 69) = true := by decide +kernel
theorem gc_M69 : gc_okM 69 := by
  have h := gc_inL [Cond.code (gc_mN 69) (gc_mB 69) (gc_mL 69) (gc_mR 69), Cond.initialized (gc_mN 69).cls, Cond.instanceMethod (gc_mN 69), Cond.selects (gc_mN 69).cls (gc_mN 69) (gc_mN 69)] [1345, 151, 1344, 59] (by decide +kernel) (by decide +kernel)
  exact ⟨h _ List.mem_cons_self, h _ (List.mem_cons_of_mem _ List.mem_cons_self), by decide +kernel, by decide +kernel, by decide +kernel, by decide +kernel, by decide +kernel, fun h => absurd h (by decide +kernel), fun _ => ⟨h _ (List.mem_cons_of_mem _ (List.mem_cons_of_mem _ List.mem_cons_self)), h _ (List.mem_cons_of_mem _ (List.mem_cons_of_mem _ (List.mem_cons_of_mem _ List.mem_cons_self))), _, rfl, by decide +kernel⟩, fun h => absurd h (by decide +kernel)⟩
