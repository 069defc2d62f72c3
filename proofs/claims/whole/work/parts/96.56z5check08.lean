/-! The checks, by program. -/
theorem gc_e177 : (gc_cd 177).all (gc_okE 177) = true := by decide +kernel
theorem gc_h177 : gc_chain (gc_cd 177) = true := by decide +kernel
theorem gc_M177 : gc_okM 177 := by
  have h := gc_inL [Cond.code (gc_mN 177) (gc_mB 177) (gc_mL 177) (gc_mR 177), Cond.initialized (gc_mN 177).cls, Cond.static (gc_mN 177)] [1733, 153, 1732] (by decide +kernel) (by decide +kernel)
  exact ⟨h _ List.mem_cons_self, h _ (List.mem_cons_of_mem _ List.mem_cons_self), by decide +kernel, by decide +kernel, by decide +kernel, by decide +kernel, by decide +kernel, fun _ => h _ (List.mem_cons_of_mem _ (List.mem_cons_of_mem _ List.mem_cons_self)), fun h => absurd h (by decide +kernel), fun h => absurd h (by decide +kernel)⟩
theorem gc_e178 : (gc_cd 178).all (gc_okE 178) = true := by decide +kernel
theorem gc_h178 : gc_chain (gc_cd 178) = true := by decide +kernel
theorem gc_M178 : gc_okM 178 := by
  have h := gc_inL [Cond.code (gc_mN 178) (gc_mB 178) (gc_mL 178) (gc_mR 178), Cond.initialized (gc_mN 178).cls, Cond.static (gc_mN 178)] [1730, 153, 1729] (by decide +kernel) (by decide +kernel)
  exact ⟨h _ List.mem_cons_self, h _ (List.mem_cons_of_mem _ List.mem_cons_self), by decide +kernel, by decide +kernel, by decide +kernel, by decide +kernel, by decide +kernel, fun _ => h _ (List.mem_cons_of_mem _ (List.mem_cons_of_mem _ List.mem_cons_self)), fun h => absurd h (by decide +kernel), fun h => absurd h (by decide +kernel)⟩
theorem gc_e179 : (gc_cd 179).all (gc_okE 179) = true := by decide +kernel
theorem gc_h179 : gc_chain (gc_cd 179) = true := by decide +kernel
theorem gc_M179 : gc_okM 179 := by
  have h := gc_inL [Cond.code (gc_mN 179) (gc_mB 179) (gc_mL 179) (gc_mR 179), Cond.initialized (gc_mN 179).cls, Cond.static (gc_mN 179)] [1441, 153, 1440] (by decide +kernel) (by decide +kernel)
  exact ⟨h _ List.mem_cons_self, h _ (List.mem_cons_of_mem _ List.mem_cons_self), by decide +kernel, by decide +kernel, by decide +kernel, by decide +kernel, by decide +kernel, fun _ => h _ (List.mem_cons_of_mem _ (List.mem_cons_of_mem _ List.mem_cons_self)), fun h => absurd h (by decide +kernel), fun h => absurd h (by decide +kernel)⟩
theorem gc_e180 : (gc_cd 180).all (gc_okE 180) = true := by decide +kernel
theorem gc_h180 : gc_chain (gc_cd 180) = true := by decide +kernel
theorem gc_M180 : gc_okM 180 := by
  have h := gc_inL [Cond.code (gc_mN 180) (gc_mB 180) (gc_mL 180) (gc_mR 180), Cond.initialized (gc_mN 180).cls, Cond.static (gc_mN 180)] [1438, 153, 1437] (by decide +kernel) (by decide +kernel)
  exact ⟨h _ List.mem_cons_self, h _ (List.mem_cons_of_mem _ List.mem_cons_self), by decide +kernel, by decide +kernel, by decide +kernel, by decide +kernel, by decide +kernel, fun _ => h _ (List.mem_cons_of_mem _ (List.mem_cons_of_mem _ List.mem_cons_self)), fun h => absurd h (by decide +kernel), fun h => absurd h (by decide +kernel)⟩
theorem gc_e181 : (gc_cd 181).all (gc_okE 181) = true := by decide +kernel
theorem gc_h181 : gc_chain (gc_cd 181) = true := by decide +kernel
theorem gc_M181 : gc_okM 181 := by
  have h := gc_inL [Cond.code (gc_mN 181) (gc_mB 181) (gc_mL 181) (gc_mR 181), Cond.initialized (gc_mN 181).cls, Cond.instanceMethod (gc_mN 181), Cond.selects (gc_mN 181).cls (gc_mN 181) (gc_mN 181)] [1727, 153, 1726, 70] (by decide +kernel) (by decide +kernel)
  exact ⟨h _ List.mem_cons_self, h _ (List.mem_cons_of_mem _ List.mem_cons_self), by decide +kernel, by decide +kernel, by decide +kernel, by decide +kernel, by decide +kernel, fun h => absurd h (by decide +kernel), fun _ => ⟨h _ (List.mem_cons_of_mem _ (List.mem_cons_of_mem _ List.mem_cons_self)), h _ (List.mem_cons_of_mem _ (List.mem_cons_of_mem _ (List.mem_cons_of_mem _ List.mem_cons_self))), _, rfl, by decide +kernel⟩, fun h => absurd h (by decide +kernel)⟩
theorem gc_e182 : (gc_cd 182).all (gc_okE 182) = true := by decide +kernel
theorem gc_h182 : gc_chain (gc_cd 182) = true := by decide +kernel
theorem gc_M182 : gc_okM 182 := by
  have h := gc_inL [Cond.code (gc_mN 182) (gc_mB 182) (gc_mL 182) (gc_mR 182), Cond.initialized (gc_mN 182).cls, Cond.instanceMethod (gc_mN 182), Cond.selects (gc_mN 182).cls (gc_mN 182) (gc_mN 182)] [1719, 153, 1718, 68] (by decide +kernel) (by decide +kernel)
  exact ⟨h _ List.mem_cons_self, h _ (List.mem_cons_of_mem _ List.mem_cons_self), by decide +kernel, by decide +kernel, by decide +kernel, by decide +kernel, by decide +kernel, fun h => absurd h (by decide +kernel), fun _ => ⟨h _ (List.mem_cons_of_mem _ (List.mem_cons_of_mem _ List.mem_cons_self)), h _ (List.mem_cons_of_mem _ (List.mem_cons_of_mem _ (List.mem_cons_of_mem _ List.mem_cons_self))), _, rfl, by decide +kernel⟩, fun h => absurd h (by decide +kernel)⟩
theorem gc_e183 : (gc_cd 183).all (gc_okE 183) = true := by decide +kernel
theorem gc_h183 : gc_chain (gc_cd 183) = true := by decide +kernel
theorem gc_M183 : gc_okM 183 := by
  have h := gc_inL [Cond.code (gc_mN 183) (gc_mB 183) (gc_mL 183) (gc_mR 183), Cond.initialized (gc_mN 183).cls, Cond.instanceMethod (gc_mN 183), Cond.selects (gc_mN 183).cls (gc_mN 183) (gc_mN 183)] [1737, 153, 1736, 71] (by decide +kernel) (by decide +kernel)
  exact ⟨h _ List.mem_cons_self, h _ (List.mem_cons_of_mem _ List.mem_cons_self), by decide +kernel, by decide +kernel, by decide +kernel, by decide +kernel, by decide +kernel, fun h => absurd h (by decide +kernel), fun _ => ⟨h _ (List.mem_cons_of_mem _ (List.mem_cons_of_mem _ List.mem_cons_self)), h _ (List.mem_cons_of_mem _ (List.mem_cons_of_mem _ (List.mem_cons_of_mem _ List.mem_cons_self))), _, rfl, by decide +kernel⟩, fun h => absurd h (by decide +kernel)⟩
theorem gc_e184 : (gc_cd 184).all (gc_okE 184) = true := by decide +kernel
theorem gc_h184 : gc_chain (gc_cd 184) = true := by decide +kernel
theorem gc_M184 : gc_okM 184 := by
  have h := gc_inL [Cond.code (gc_mN 184) (gc_mB 184) (gc_mL 184) (gc_mR 184), Cond.initialized (gc_mN 184).cls, Cond.instanceMethod (gc_mN 184), Cond.selects (gc_mN 184).cls (gc_mN 184) (gc_mN 184)] [1741, 153, 1740, 72] (by decide +kernel) (by decide +kernel)
  exact ⟨h _ List.mem_cons_self, h _ (List.mem_cons_of_mem _ List.mem_cons_self), by decide +kernel, by decide +kernel, by decide +kernel, by decide +kernel, by decide +kernel, fun h => absurd h (by decide +kernel), fun _ => ⟨h _ (List.mem_cons_of_mem _ (List.mem_cons_of_mem _ List.mem_cons_self)), h _ (List.mem_cons_of_mem _ (List.mem_cons_of_mem _ (List.mem_cons_of_mem _ List.mem_cons_self))), _, rfl, by decide +kernel⟩, fun h => absurd h (by decide +kernel)⟩
theorem gc_e185 : (gc_cd 185).all (gc_okE 185) = true := by decide +kernel
theorem gc_h185 : gc_chain (gc_cd 185) = true := by decide +kernel
theorem gc_M185 : gc_okM 185 := by
  have h := gc_inL [Cond.code (gc_mN 185) (gc_mB 185) (gc_mL 185) (gc_mR 185), Cond.initialized (gc_mN 185).cls, Cond.instanceMethod (gc_mN 185), Cond.selects (gc_mN 185).cls (gc_mN 185) (gc_mN 185)] [1749, 153, 1748, 74] (by decide +kernel) (by decide +kernel)
  exact ⟨h _ List.mem_cons_self, h _ (List.mem_cons_of_mem _ List.mem_cons_self), by decide +kernel, by decide +kernel, by decide +kernel, by decide +kernel, by decide +kernel, fun h => absurd h (by decide +kernel), fun _ => ⟨h _ (List.mem_cons_of_mem _ (List.mem_cons_of_mem _ List.mem_cons_self)), h _ (List.mem_cons_of_mem _ (List.mem_cons_of_mem _ (List.mem_cons_of_mem _ List.mem_cons_self))), _, rfl, by decide +kernel⟩, fun h => absurd h (by decide +kernel)⟩
theorem gc_e186 : (gc_cd 186).all (gc_okE 186) = true := by decide +kernel
theorem gc_h186 : gc_chain (gc_cd 186) = true := by decide +kernel
theorem gc_M186 : gc_okM 186 := by
  have h := gc_inL [Cond.code (gc_mN 186) (gc_mB 186) (gc_mL 186) (gc_mR 186), Cond.initialized (gc_mN 186).cls, Cond.instanceMethod (gc_mN 186), Cond.selects (gc_mN 186).cls (gc_mN 186) (gc_mN 186)] [1769, 153, 1768, 79] (by decide +kernel) (by decide +kernel)
  exact ⟨h _ List.mem_cons_self, h _ (List.mem_cons_of_mem _ List.mem_cons_self), by decide +kernel, by decide +kernel, by decide +kernel, by decide +kernel, by decide +kernel, fun h => absurd h (by decide +kernel), fun _ => ⟨h _ (List.mem_cons_of_mem _ (List.mem_cons_of_mem _ List.mem_cons_self)), h _ (List.mem_cons_of_mem _ (List.mem_cons_of_mem _ (List.mem_cons_of_mem _ List.mem_cons_self))), _, rfl, by decide +kernel⟩, fun h => absurd h (by decide +kernel)⟩
theorem gc_e187 : (gc_cd 187).all (gc_okE 187) = true := by decide +kernel
theorem gc_h187 : gc_chain (gc_cd 187) = true := by decide +kernel
theorem gc_M187 : gc_okM 187 := by
  have h := gc_inL [Cond.code (gc_mN 187) (gc_mB 187) (gc_mL 187) (gc_mR 187), Cond.initialized (gc_mN 187).cls, Cond.instanceMethod (gc_mN 187), Cond.selects (gc_mN 187).cls (gc_mN 187) (gc_mN 187)] [1757, 153, 1756, 76] (by decide +kernel) (by decide +kernel)
  exact ⟨h _ List.mem_cons_self, h _ (List.mem_cons_of_mem _ List.mem_cons_self), by decide +kernel, by decide +kernel, by decide +kernel, by decide +kernel, by decide +kernel, fun h => absurd h (by decide +kernel), fun _ => ⟨h _ (List.mem_cons_of_mem _ (List.mem_cons_of_mem _ List.mem_cons_self)), h _ (List.mem_cons_of_mem _ (List.mem_cons_of_mem _ (List.mem_cons_of_mem _ List.mem_cons_self))), _, rfl, by decide +kernel⟩, fun h => absurd h (by decide +kernel)⟩
theorem gc_e188 : (gc_cd 188).all (gc_okE 188) = true := by decide +kernel
theorem gc_h188 : gc_chain (gc_cd 188) = true := by decide +kernel
theorem gc_M188 : gc_okM 188 := by
  have h := gc_inL [Cond.code (gc_mN 188) (gc_mB 188) (gc_mL 188) (gc_mR 188), Cond.initialized (gc_mN 188).cls, Cond.instanceMethod (gc_mN 188), Cond.selects (gc_mN 188).cls (gc_mN 188) (gc_mN 188)] [1765, 153, 1764, 78] (by decide +kernel) (by decide +kernel)
  exact ⟨h _ List.mem_cons_self, h _ (List.mem_cons_of_mem _ List.mem_cons_self), by decide +kernel, by decide +kernel, by decide +kernel, by decide +kernel, by decide +kernel, fun h => absurd h (by decide +kernel), fun _ => ⟨h _ (List.mem_cons_of_mem _ (List.mem_cons_of_mem _ List.mem_cons_self)), h _ (List.mem_cons_of_mem _ (List.mem_cons_of_mem _ (List.mem_cons_of_mem _ List.mem_cons_self))), _, rfl, by decide +kernel⟩, fun h => absurd h (by decide +kernel)⟩
theorem gc_e189 : (gc_cd 189).all (gc_okE 189) = true := by decide +kernel
theorem gc_h189 : gc_chain (gc_cd 189) = true := by decide +kernel
theorem gc_M189 : gc_okM 189 := by
  have h := gc_inL [Cond.code (gc_mN 189) (gc_mB 189) (gc_mL 189) (gc_mR 189), Cond.initialized (gc_mN 189).cls, Cond.instanceMethod (gc_mN 189), Cond.selects (gc_mN 189).cls (gc_mN 189) (gc_mN 189)] [1715, 153, 1714, 67] (by decide +kernel) (by decide +kernel)
  exact ⟨h _ List.mem_cons_self, h _ (List.mem_cons_of_mem _ List.mem_cons_self), by decide +kernel, by decide +kernel, by decide +kernel, by decide +kernel, by decide +kernel, fun h => absurd h (by decide +kernel), fun _ => ⟨h _ (List.mem_cons_of_mem _ (List.mem_cons_of_mem _ List.mem_cons_self)), h _ (List.mem_cons_of_mem _ (List.mem_cons_of_mem _ (List.mem_cons_of_mem _ List.mem_cons_self))), _, rfl, by decide +kernel⟩, fun h => absurd h (by decide +kernel)⟩
