/-! The checks, by program. -/
theorem gc_e144 : (gc_cd 144).all (gc_okE 144) = true := by decide +kernel
theorem gc_h144 : gc_chain (gc_cd 144) = true := by decide +kernel
theorem gc_M144 : gc_okM 144 := by
  have h := gc_inL [Cond.code (gc_mN 144) (gc_mB 144) (gc_mL 144) (gc_mR 144), Cond.initialized (gc_mN 144).cls, Cond.instanceMethod (gc_mN 144), Cond.selects (gc_mN 144).cls (gc_mN 144) (gc_mN 144)] [1314, 138, 1312, 1313] (by decide +kernel) (by decide +kernel)
  exact ⟨h _ List.mem_cons_self, h _ (List.mem_cons_of_mem _ List.mem_cons_self), by decide +kernel, by decide +kernel, by decide +kernel, by decide +kernel, by decide +kernel, fun h => absurd h (by decide +kernel), fun _ => ⟨h _ (List.mem_cons_of_mem _ (List.mem_cons_of_mem _ List.mem_cons_self)), h _ (List.mem_cons_of_mem _ (List.mem_cons_of_mem _ (List.mem_cons_of_mem _ List.mem_cons_self))), _, rfl, by decide +kernel⟩, fun h => absurd h (by decide +kernel)⟩
theorem gc_e145 : (gc_cd 145).all (gc_okE 145) = true := by decide +kernel
theorem gc_h145 : gc_chain (gc_cd 145) = true := by decide +kernel
theorem gc_M145 : gc_okM 145 := by
  have h := gc_inL [Cond.code (gc_mN 145) (gc_mB 145) (gc_mL 145) (gc_mR 145), Cond.initialized (gc_mN 145).cls, Cond.instanceMethod (gc_mN 145), Cond.selects (gc_mN 145).cls (gc_mN 145) (gc_mN 145)] [1374, 138, 1372, 1373] (by decide +kernel) (by decide +kernel)
  exact ⟨h _ List.mem_cons_self, h _ (List.mem_cons_of_mem _ List.mem_cons_self), by decide +kernel, by decide +kernel, by decide +kernel, by decide +kernel, by decide +kernel, fun h => absurd h (by decide +kernel), fun _ => ⟨h _ (List.mem_cons_of_mem _ (List.mem_cons_of_mem _ List.mem_cons_self)), h _ (List.mem_cons_of_mem _ (List.mem_cons_of_mem _ (List.mem_cons_of_mem _ List.mem_cons_self))), _, rfl, by decide +kernel⟩, fun h => absurd h (by decide +kernel)⟩
theorem gc_e146 : (gc_cd 146).all (gc_okE 146) = true := by decide +kernel
theorem gc_h146 : gc_chain (gc_cd 146) = true := by decide +kernel
theorem gc_M146 : gc_okM 146 := by
  have h := gc_inL [Cond.code (gc_mN 146) (gc_mB 146) (gc_mL 146) (gc_mR 146), Cond.initialized (gc_mN 146).cls, Cond.instanceMethod (gc_mN 146), Cond.selects (gc_mN 146).cls (gc_mN 146) (gc_mN 146)] [1379, 138, 1377, 1378] (by decide +kernel) (by decide +kernel)
  exact ⟨h _ List.mem_cons_self, h _ (List.mem_cons_of_mem _ List.mem_cons_self), by decide +kernel, by decide +kernel, by decide +kernel, by decide +kernel, by decide +kernel, fun h => absurd h (by decide +kernel), fun _ => ⟨h _ (List.mem_cons_of_mem _ (List.mem_cons_of_mem _ List.mem_cons_self)), h _ (List.mem_cons_of_mem _ (List.mem_cons_of_mem _ (List.mem_cons_of_mem _ List.mem_cons_self))), _, rfl, by decide +kernel⟩, fun h => absurd h (by decide +kernel)⟩
theorem gc_e147 : (gc_cd 147).all (gc_okE 147) = true := by decide +kernel
theorem gc_h147 : gc_chain (gc_cd 147) = true := by decide +kernel
theorem gc_M147 : gc_okM 147 := by
  have h := gc_inL [Cond.code (gc_mN 147) (gc_mB 147) (gc_mL 147) (gc_mR 147), Cond.initialized (gc_mN 147).cls, Cond.instanceMethod (gc_mN 147), Cond.selects (gc_mN 147).cls (gc_mN 147) (gc_mN 147)] [1389, 138, 1387, 1388] (by decide +kernel) (by decide +kernel)
  exact ⟨h _ List.mem_cons_self, h _ (List.mem_cons_of_mem _ List.mem_cons_self), by decide +kernel, by decide +kernel, by decide +kernel, by decide +kernel, by decide +kernel, fun h => absurd h (by decide +kernel), fun _ => ⟨h _ (List.mem_cons_of_mem _ (List.mem_cons_of_mem _ List.mem_cons_self)), h _ (List.mem_cons_of_mem _ (List.mem_cons_of_mem _ (List.mem_cons_of_mem _ List.mem_cons_self))), _, rfl, by decide +kernel⟩, fun h => absurd h (by decide +kernel)⟩
theorem gc_e148 : (gc_cd 148).all (gc_okE 148) = true := by decide +kernel
theorem gc_h148 : gc_chain (gc_cd 148) = true := by decide +kernel
theorem gc_M148 : gc_okM 148 := by
  have h := gc_inL [Cond.code (gc_mN 148) (gc_mB 148) (gc_mL 148) (gc_mR 148), Cond.initialized (gc_mN 148).cls, Cond.instanceMethod (gc_mN 148), Cond.selects (gc_mN 148).cls (gc_mN 148) (gc_mN 148)] [1393, 138, 1391, 1392] (by decide +kernel) (by decide +kernel)
  exact ⟨h _ List.mem_cons_self, h _ (List.mem_cons_of_mem _ List.mem_cons_self), by decide +kernel, by decide +kernel, by decide +kernel, by decide +kernel, by decide +kernel, fun h => absurd h (by decide +kernel), fun _ => ⟨h _ (List.mem_cons_of_mem _ (List.mem_cons_of_mem _ List.mem_cons_self)), h _ (List.mem_cons_of_mem _ (List.mem_cons_of_mem _ (List.mem_cons_of_mem _ List.mem_cons_self))), _, rfl, by decide +kernel⟩, fun h => absurd h (by decide +kernel)⟩
theorem gc_e149 : (gc_cd 149).all (gc_okE 149) = true := by decide +kernel
theorem gc_h149 : gc_chain (gc_cd 149) = true := by decide +kernel
theorem gc_M149 : gc_okM 149 := by
  have h := gc_inL [Cond.code (gc_mN 149) (gc_mB 149) (gc_mL 149) (gc_mR 149), Cond.initialized (gc_mN 149).cls, Cond.instanceMethod (gc_mN 149), Cond.selects (gc_mN 149).cls (gc_mN 149) (gc_mN 149)] [1397, 138, 1395, 1396] (by decide +kernel) (by decide +kernel)
  exact ⟨h _ List.mem_cons_self, h _ (List.mem_cons_of_mem _ List.mem_cons_self), by decide +kernel, by decide +kernel, by decide +kernel, by decide +kernel, by decide +kernel, fun h => absurd h (by decide +kernel), fun _ => ⟨h _ (List.mem_cons_of_mem _ (List.mem_cons_of_mem _ List.mem_cons_self)), h _ (List.mem_cons_of_mem _ (List.mem_cons_of_mem _ (List.mem_cons_of_mem _ List.mem_cons_self))), _, rfl, by decide +kernel⟩, fun h => absurd h (by decide +kernel)⟩
theorem gc_e150 : (gc_cd 150).all (gc_okE 150) = true := by decide +kernel
theorem gc_h150 : gc_chain (gc_cd 150) = true := by decide +kernel
theorem gc_M150 : gc_okM 150 := by
  have h := gc_inL [Cond.code (gc_mN 150) (gc_mB 150) (gc_mL 150) (gc_mR 150), Cond.initialized (gc_mN 150).cls, Cond.instanceMethod (gc_mN 150), Cond.selects (gc_mN 150).cls (gc_mN 150) (gc_mN 150)] [1403, 138, 1401, 1402] (by decide +kernel) (by decide +kernel)
  exact ⟨h _ List.mem_cons_self, h _ (List.mem_cons_of_mem _ List.mem_cons_self), by decide +kernel, by decide +kernel, by decide +kernel, by decide +kernel, by decide +kernel, fun h => absurd h (by decide +kernel), fun _ => ⟨h _ (List.mem_cons_of_mem _ (List.mem_cons_of_mem _ List.mem_cons_self)), h _ (List.mem_cons_of_mem _ (List.mem_cons_of_mem _ (List.mem_cons_of_mem _ List.mem_cons_self))), _, rfl, by decide +kernel⟩, fun h => absurd h (by decide +kernel)⟩
theorem gc_e151 : (gc_cd 151).all (gc_okE 151) = true := by decide +kernel
theorem gc_h151 : gc_chain (gc_cd 151) = true := by decide +kernel
theorem gc_M151 : gc_okM 151 := by
  have h := gc_inL [Cond.code (gc_mN 151) (gc_mB 151) (gc_mL 151) (gc_mR 151), Cond.initialized (gc_mN 151).cls, Cond.instanceMethod (gc_mN 151), Cond.selects (gc_mN 151).cls (gc_mN 151) (gc_mN 151)] [1414, 138, 1412, 1413] (by decide +kernel) (by decide +kernel)
  exact ⟨h _ List.mem_cons_self, h _ (List.mem_cons_of_mem _ List.mem_cons_self), by decide +kernel, by decide +kernel, by decide +kernel, by decide +kernel, by decide +kernel, fun h => absurd h (by decide +kernel), fun _ => ⟨h _ (List.mem_cons_of_mem _ (List.mem_cons_of_mem _ List.mem_cons_self)), h _ (List.mem_cons_of_mem _ (List.mem_cons_of_mem _ (List.mem_cons_of_mem _ List.mem_cons_self))), _, rfl, by decide +kernel⟩, fun h => absurd h (by decide +kernel)⟩
theorem gc_e152 : (gc_cd 152).all (gc_okE 152) = true := by decide +kernel
theorem gc_h152 : gc_chain (gc_cd 152) = true := by decide +kernel
theorem gc_M152 : gc_okM 152 := by
  have h := gc_inL [Cond.code (gc_mN 152) (gc_mB 152) (gc_mL 152) (gc_mR 152), Cond.initialized (gc_mN 152).cls, Cond.instanceMethod (gc_mN 152), Cond.selects (gc_mN 152).cls (gc_mN 152) (gc_mN 152)] [1419, 138, 1417, 1418] (by decide +kernel) (by decide +kernel)
  exact ⟨h _ List.mem_cons_self, h _ (List.mem_cons_of_mem _ List.mem_cons_self), by decide +kernel, by decide +kernel, by decide +kernel, by decide +kernel, by decide +kernel, fun h => absurd h (by decide +kernel), fun _ => ⟨h _ (List.mem_cons_of_mem _ (List.mem_cons_of_mem _ List.mem_cons_self)), h _ (List.mem_cons_of_mem _ (List.mem_cons_of_mem _ (List.mem_cons_of_mem _ List.mem_cons_self))), _, rfl, by decide +kernel⟩, fun h => absurd h (by decide +kernel)⟩
theorem gc_e153 : (gc_cd 153).all (gc_okE 153) = true := by decide +kernel
theorem gc_h153 : gc_chain (gc_cd 153) = true := by decide +kernel
theorem gc_M153 : gc_okM 153 := by
  have h := gc_inL [Cond.code (gc_mN 153) (gc_mB 153) (gc_mL 153) (gc_mR 153), Cond.initialized (gc_mN 153).cls, Cond.instanceMethod (gc_mN 153), Cond.selects (gc_mN 153).cls (gc_mN 153) (gc_mN 153)] [1423, 138, 1421, 1422] (by decide +kernel) (by decide +kernel)
  exact ⟨h _ List.mem_cons_self, h _ (List.mem_cons_of_mem _ List.mem_cons_self), by decide +kernel, by decide +kernel, by decide +kernel, by decide +kernel, by decide +kernel, fun h => absurd h (by decide +kernel), fun _ => ⟨h _ (List.mem_cons_of_mem _ (List.mem_cons_of_mem _ List.mem_cons_self)), h _ (List.mem_cons_of_mem _ (List.mem_cons_of_mem _ (List.mem_cons_of_mem _ List.mem_cons_self))), _, rfl, by decide +kernel⟩, fun h => absurd h (by decide +kernel)⟩
theorem gc_e154 : (gc_cd 154).all (gc_okE 154) = true := by decide +kernel
theorem gc_h154 : gc_chain (gc_cd 154) = true := by decide +kernel
theorem gc_M154 : gc_okM 154 := by
  have h := gc_inL [Cond.code (gc_mN 154) (gc_mB 154) (gc_mL 154) (gc_mR 154), Cond.initialized (gc_mN 154).cls, Cond.instanceMethod (gc_mN 154), Cond.selects (gc_mN 154).cls (gc_mN 154) (gc_mN 154)] [1427, 138, 1426, 65] (by decide +kernel) (by decide +kernel)
  exact ⟨h _ List.mem_cons_self, h _ (List.mem_cons_of_mem _ List.mem_cons_self), by decide +kernel, by decide +kernel, by decide +kernel, by decide +kernel, by decide +kernel, fun h => absurd h (by decide +kernel), fun _ => ⟨h _ (List.mem_cons_of_mem _ (List.mem_cons_of_mem _ List.mem_cons_self)), h _ (List.mem_cons_of_mem _ (List.mem_cons_of_mem _ (List.mem_cons_of_mem _ List.mem_cons_self))), _, rfl, by decide +kernel⟩, fun h => absurd h (by decide +kernel)⟩
theorem gc_e155 : (gc_cd 155).all (gc_okE 155) = true := by decide +kernel
theorem gc_h155 : gc_chain (gc_cd 155) = true := by decide +kernel
theorem gc_M155 : gc_okM 155 := by
  have h := gc_inL [Cond.code (gc_mN 155) (gc_mB 155) (gc_mL 155) (gc_mR 155), Cond.initialized (gc_mN 155).cls, Cond.instanceMethod (gc_mN 155), Cond.selects (gc_mN 155).cls (gc_mN 155) (gc_mN 155)] [1040, 138, 1039, 34] (by decide +kernel) (by decide +kernel)
  exact ⟨h _ List.mem_cons_self, h _ (List.mem_cons_of_mem _ List.mem_cons_self), by decide +kernel, by decide +kernel, by decide +kernel, by decide +kernel, by decide +kernel, fun h => absurd h (by decide +kernel), fun _ => ⟨h _ (List.mem_cons_of_mem _ (List.mem_cons_of_mem _ List.mem_cons_self)), h _ (List.mem_cons_of_mem _ (List.mem_cons_of_mem _ (List.mem_cons_of_mem _ List.mem_cons_self))), _, rfl, by decide +kernel⟩, fun h => absurd h (by decide +kernel)⟩
theorem gc_e156 : (gc_cd 156).all (gc_okE 156) = true := by decide +kernel
theorem gc_h156 : gc_chain (gc_cd 156) = true := by decide +kernel
theorem gc_M156 : gc_okM 156 := by
  have h := gc_inL [Cond.code (gc_mN 156) (gc_mB 156) (gc_mL 156) (gc_mR 156), Cond.initialized (gc_mN 156).cls, Cond.instanceMethod (gc_mN 156), Cond.selects (gc_mN 156).cls (gc_mN 156) (gc_mN 156)] [945, 138, 944, 21] (by decide +kernel) (by decide +kernel)
  exact ⟨h _ List.mem_cons_self, h _ (List.mem_cons_of_mem _ List.mem_cons_self), by decide +kernel, by decide +kernel, by decide +kernel, by decide +kernel, by decide +kernel, fun h => absurd h (by decide +kernel), fun _ => ⟨h _ (List.mem_cons_of_mem _ (List.mem_cons_of_mem _ List.mem_cons_self)), h _ (List.mem_cons_of_mem _ (List.mem_cons_of_mem _ (List.mem_cons_of_mem _ List.mem_cons_self))), _, rfl, by decide +kernel⟩, fun h => absurd h (by decide +kernel)⟩
theorem gc_e157 : (gc_cd 157).all (gc_okE 157) = true := by decide +kernel
theorem gc_h157 : gc_chain (gc_cd 157) = true := by decide +kernel
theorem gc_M157 : gc_okM 157 := by
  have h := gc_inL [Cond.code (gc_mN 157) (gc_mB 157) (gc_mL 157) (gc_mR 157), Cond.initialized (gc_mN 157).cls, Cond.static (gc_mN 157)] [1273, 138, 1272] (by decide +kernel) (by decide +kernel)
  exact ⟨h _ List.mem_cons_self, h _ (List.mem_cons_of_mem _ List.mem_cons_self), by decide +kernel, by decide +kernel, by decide +kernel, by decide +kernel, by decide +kernel, fun _ => h _ (List.mem_cons_of_mem _ (List.mem_cons_of_mem _ List.mem_cons_self)), fun h => absurd h (by decide +kernel), fun h => absurd h (by decide +kernel)⟩
theorem gc_e158 : (gc_cd 158).all (gc_okE 158) = true := by decide +kernel
theorem gc_h158 : gc_chain (gc_cd 158) = true := by decide +kernel
theorem gc_M158 : gc_okM 158 := by
  have h := gc_inL [Cond.code (gc_mN 158) (gc_mB 158) (gc_mL 158) (gc_mR 158), Cond.initialized (gc_mN 158).cls, Cond.instanceMethod (gc_mN 158), Cond.selects (gc_mN 158).cls (gc_mN 158) (gc_mN 158)] [1160, 138, 1159, 45] (by decide +kernel) (by decide +kernel)
  exact ⟨h _ List.mem_cons_self, h _ (List.mem_cons_of_mem _ List.mem_cons_self), by decide +kernel, by decide +kernel, by decide +kernel, by decide +kernel, by decide +kernel, fun h => absurd h (by decide +kernel), fun _ => ⟨h _ (List.mem_cons_of_mem _ (List.mem_cons_of_mem _ List.mem_cons_self)), h _ (List.mem_cons_of_mem _ (List.mem_cons_of_mem _ (List.mem_cons_of_mem _ List.mem_cons_self))), _, rfl, by decide +kernel⟩, fun h => absurd h (by decide +kernel)⟩
theorem gc_e159 : (gc_cd 159).all (gc_okE 159) = true := by decide +kernel
theorem gc_h159 : gc_chain (gc_cd 159) = true := by decide +kernel
theorem gc_M159 : gc_okM 159 := by
  have h := gc_inL [Cond.code (gc_mN 159) (gc_mB 159) (gc_mL 159) (gc_mR 159), Cond.initialized (gc_mN 159).cls, Cond.instanceMethod (gc_mN 159), Cond.selects (gc_mN 159).cls (gc_mN 159) (gc_mN 159)] [1302, 138, 1301, 56] (by decide +kernel) (by decide +kernel)
  exact ⟨h _ List.mem_cons_self, h _ (List.mem_cons_of_mem _ List.mem_cons_self), by decide +kernel, by decide +kernel, by decide +kernel, by decide +kernel, by decide +kernel, fun h => absurd h (by decide +kernel), fun _ => ⟨h _ (List.mem_cons_of_mem _ (List.mem_cons_of_mem _ List.mem_cons_self)), h _ (List.mem_cons_of_mem _ (List.mem_cons_of_mem _ (List.mem_cons_of_mem _ List.mem_cons_self))), _, rfl, by decide +kernel⟩, fun h => absurd h (by decide +kernel)⟩
theorem gc_e160 : (gc_cd 160).all (gc_okE 160) = true := by decide +kernel
theorem gc_h160 : gc_chain (gc_cd 160) = true := by decide +kernel
theorem gc_M160 : gc_okM 160 := by
  have h := gc_inL [Cond.code (gc_mN 160) (gc_mB 160) (gc_mL 160) (gc_mR 160), Cond.initialized (gc_mN 160).cls, Cond.instanceMethod (gc_mN 160), Cond.selects (gc_mN 160).cls (gc_mN 160) (gc_mN 160)] [1306, 138, 1305, 57] (by decide +kernel) (by decide +kernel)
  exact ⟨h _ List.mem_cons_self, h _ (List.mem_cons_of_mem _ List.mem_cons_self), by decide +kernel, by decide +kernel, by decide +kernel, by decide +kernel, by decide +kernel, fun h => absurd h (by decide +kernel), fun _ => ⟨h _ (List.mem_cons_of_mem _ (List.mem_cons_of_mem _ List.mem_cons_self)), h _ (List.mem_cons_of_mem _ (List.mem_cons_of_mem _ (List.mem_cons_of_mem _ List.mem_cons_self))), _, rfl, by decide +kernel⟩, fun h => absurd h (by decide +kernel)⟩
theorem gc_e161 : (gc_cd 161).all (gc_okE 161) = true := by decide +kernel
theorem gc_h161 : gc_chain (gc_cd 161) = true := by decide +kernel
theorem gc_M161 : gc_okM 161 := by
  have h := gc_inL [Cond.code (gc_mN 161) (gc_mB 161) (gc_mL 161) (gc_mR 161), Cond.initialized (gc_mN 161).cls, Cond.instanceMethod (gc_mN 161), Cond.selects (gc_mN 161).cls (gc_mN 161) (gc_mN 161)] [1383, 138, 1382, 64] (by decide +kernel) (by decide +kernel)
  exact ⟨h _ List.mem_cons_self, h _ (List.mem_cons_of_mem _ List.mem_cons_self), by decide +kernel, by decide +kernel, by decide +kernel, by decide +kernel, by decide +kernel, fun h => absurd h (by decide +kernel), fun _ => ⟨h _ (List.mem_cons_of_mem _ (List.mem_cons_of_mem _ List.mem_cons_self)), h _ (List.mem_cons_of_mem _ (List.mem_cons_of_mem _ (List.mem_cons_of_mem _ List.mem_cons_self))), _, rfl, by decide +kernel⟩, fun h => absurd h (by decide +kernel)⟩
theorem gc_e162 : (gc_cd 162).all (gc_okE 162) = true := by decide +kernel
theorem gc_h162 : gc_chain (gc_cd 162) = true := by decide +kernel
theorem gc_M162 : gc_okM 162 := by
  have h := gc_inL [Cond.code (gc_mN 162) (gc_mB 162) (gc_mL 162) (gc_mR 162), Cond.initialized (gc_mN 162).cls, Cond.static (gc_mN 162)] [1406, 138, 1405] (by decide +kernel) (by decide +kernel)
  exact ⟨h _ List.mem_cons_self, h _ (List.mem_cons_of_mem _ List.mem_cons_self), by decide +kernel, by decide +kernel, by decide +kernel, by decide +kernel, by decide +kernel, fun _ => h _ (List.mem_cons_of_mem _ (List.mem_cons_of_mem _ List.mem_cons_self)), fun h => absurd h (by decide +kernel), fun h => absurd h (by decide +kernel)⟩
theorem gc_e163 : (gc_cd 163).all (gc_okE 163) = true := by decide +kernel
theorem gc_h163 : gc_chain (gc_cd 163) = true := by decide +kernel
theorem gc_M163 : gc_okM 163 := by
  have h := gc_inL [Cond.code (gc_mN 163) (gc_mB 163) (gc_mL 163) (gc_mR 163), Cond.initialized (gc_mN 163).cls, Cond.static (gc_mN 163)] [1409, 138, 1408] (by decide +kernel) (by decide +kernel)
  exact ⟨h _ List.mem_cons_self, h _ (List.mem_cons_of_mem _ List.mem_cons_self), by decide +kernel, by decide +kernel, by decide +kernel, by decide +kernel, by decide +kernel, fun _ => h _ (List.mem_cons_of_mem _ (List.mem_cons_of_mem _ List.mem_cons_self)), fun h => absurd h (by decide +kernel), fun h => absurd h (by decide +kernel)⟩
theorem gc_e164 : (gc_cd 164).all (gc_okE 164) = true := by decide +kernel
theorem gc_h164 : gc_chain (gc_cd 164) = true := by decide +kernel
theorem gc_M164 : gc_okM 164 := by
  have h := gc_inL [Cond.code (gc_mN 164) (gc_mB 164) (gc_mL 164) (gc_mR 164), Cond.initialized (gc_mN 164).cls, Cond.static (gc_mN 164)] [860, 138, 859] (by decide +kernel) (by decide +kernel)
  exact ⟨h _ List.mem_cons_self, h _ (List.mem_cons_of_mem _ List.mem_cons_self), by decide +kernel, by decide +kernel, by decide +kernel, by decide +kernel, by decide +kernel, fun _ => h _ (List.mem_cons_of_mem _ (List.mem_cons_of_mem _ List.mem_cons_self)), fun h => absurd h (by decide +kernel), fun h => absurd h (by decide +kernel)⟩
theorem gc_e165 : (gc_cd 165).all (gc_okE 165) = true := by decide +kernel
theorem gc_h165 : gc_chain (gc_cd 165) = true := by decide +kernel
theorem gc_M165 : gc_okM 165 := by
  have h := gc_inL [Cond.code (gc_mN 165) (gc_mB 165) (gc_mL 165) (gc_mR 165), Cond.initialized (gc_mN 165).cls, Cond.static (gc_mN 165)] [991, 138, 990] (by decide +kernel) (by decide +kernel)
  exact ⟨h _ List.mem_cons_self, h _ (List.mem_cons_of_mem _ List.mem_cons_self), by decide +kernel, by decide +kernel, by decide +kernel, by decide +kernel, by decide +kernel, fun _ => h _ (List.mem_cons_of_mem _ (List.mem_cons_of_mem _ List.mem_cons_self)), fun h => absurd h (by decide +kernel), fun h => absurd h (by decide +kernel)⟩
theorem gc_e166 : (gc_cd 166).all (gc_okE 166) = true := by decide +kernel
theorem gc_h166 : gc_chain (gc_cd 166) = true := by decide +kernel
theorem gc_M166 : gc_okM 166 := by
  have h := gc_inL [Cond.code (gc_mN 166) (gc_mB 166) (gc_mL 166) (gc_mR 166), Cond.initialized (gc_mN 166).cls, Cond.static (gc_mN 166)] [1056, 138, 1055] (by decide +kernel) (by decide +kernel)
  exact ⟨h _ List.mem_cons_self, h _ (List.mem_cons_of_mem _ List.mem_cons_self), by decide +kernel, by decide +kernel, by decide +kernel, by decide +kernel, by decide +kernel, fun _ => h _ (List.mem_cons_of_mem _ (List.mem_cons_of_mem _ List.mem_cons_self)), fun h => absurd h (by decide +kernel), fun h => absurd h (by decide +kernel)⟩
theorem gc_e167 : (gc_cd 167).all (gc_okE 167) = true := by decide +kernel
theorem gc_h167 : gc_chain (gc_cd 167) = true := by decide +kernel
theorem gc_M167 : gc_okM 167 := by
  have h := gc_inL [Cond.code (gc_mN 167) (gc_mB 167) (gc_mL 167) (gc_mR 167), Cond.initialized (gc_mN 167).cls, Cond.static (gc_mN 167)] [1087, 138, 1086] (by decide +kernel) (by decide +kernel)
  exact ⟨h _ List.mem_cons_self, h _ (List.mem_cons_of_mem _ List.mem_cons_self), by decide +kernel, by decide +kernel, by decide +kernel, by decide +kernel, by decide +kernel, fun _ => h _ (List.mem_cons_of_mem _ (List.mem_cons_of_mem _ List.mem_cons_self)), fun h => absurd h (by decide +kernel), fun h => absurd h (by decide +kernel)⟩
theorem gc_e168 : (gc_cd 168).all (gc_okE 168) = true := by decide +kernel
theorem gc_h168 : gc_chain (gc_cd 168) = true := by decide +kernel
theorem gc_M168 : gc_okM 168 := by
  have h := gc_inL [Cond.code (gc_mN 168) (gc_mB 168) (gc_mL 168) (gc_mR 168), Cond.initialized (gc_mN 168).cls, Cond.static (gc_mN 168)] [937, 138, 936] (by decide +kernel) (by decide +kernel)
  exact ⟨h _ List.mem_cons_self, h _ (List.mem_cons_of_mem _ List.mem_cons_self), by decide +kernel, by decide +kernel, by decide +kernel, by decide +kernel, by decide +kernel, fun _ => h _ (List.mem_cons_of_mem _ (List.mem_cons_of_mem _ List.mem_cons_self)), fun h => absurd h (by decide +kernel), fun h => absurd h (by decide +kernel)⟩
theorem gc_e169 : (gc_cd 169).all (gc_okE 169) = true := by decide +kernel
theorem gc_h169 : gc_chain (gc_cd 169) = true := by decide +kernel
theorem gc_M169 : gc_okM 169 := by
  have h := gc_inL [Cond.code (gc_mN 169) (gc_mB 169) (gc_mL 169) (gc_mR 169), Cond.initialized (gc_mN 169).cls, Cond.static (gc_mN 169)] [934, 138, 933] (by decide +kernel) (by decide +kernel)
  exact ⟨h _ List.mem_cons_self, h _ (List.mem_cons_of_mem _ List.mem_cons_self), by decide +kernel, by decide +kernel, by decide +kernel, by decide +kernel, by decide +kernel, fun _ => h _ (List.mem_cons_of_mem _ (List.mem_cons_of_mem _ List.mem_cons_self)), fun h => absurd h (by decide +kernel), fun h => absurd h (by decide +kernel)⟩
theorem gc_e170 : (gc_cd 170).all (gc_okE 170) = true := by decide +kernel
theorem gc_h170 : gc_chain (gc_cd 170) = true := by decide +kernel
theorem gc_M170 : gc_okM 170 := by
  have h := gc_inL [Cond.code (gc_mN 170) (gc_mB 170) (gc_mL 170) (gc_mR 170), Cond.initialized (gc_mN 170).cls, Cond.static (gc_mN 170)] [1129, 138, 1128] (by decide +kernel) (by decide +kernel)
  exact ⟨h _ List.mem_cons_self, h _ (List.mem_cons_of_mem _ List.mem_cons_self), by decide +kernel, by decide +kernel, by decide +kernel, by decide +kernel, by decide +kernel, fun _ => h _ (List.mem_cons_of_mem _ (List.mem_cons_of_mem _ List.mem_cons_self)), fun h => absurd h (by decide +kernel), fun h => absurd h (by decide +kernel)⟩
theorem gc_e171 : (gc_cd 171).all (gc_okE 171) = true := by decide +kernel
theorem gc_h171 : gc_chain (gc_cd 171) = true := by decide +kernel
theorem gc_M171 : gc_okM 171 := by
  have h := gc_inL [Cond.code (gc_mN 171) (gc_mB 171) (gc_mL 171) (gc_mR 171), Cond.initialized (gc_mN 171).cls, Cond.static (gc_mN 171)] [931, 138, 930] (by decide +kernel) (by decide +kernel)
  exact ⟨h _ List.mem_cons_self, h _ (List.mem_cons_of_mem _ List.mem_cons_self), by decide +kernel, by decide +kernel, by decide +kernel, by decide +kernel, by decide +kernel, fun _ => h _ (List.mem_cons_of_mem _ (List.mem_cons_of_mem _ List.mem_cons_self)), fun h => absurd h (by decide +kernel), fun h => absurd h (by decide +kernel)⟩
