/-! The checks, by program. -/
theorem gc_inL (ws : List Cond) (ps : List Nat) (hp : ws = ps.filterMap (fun i => lw_tbl[i]?)) (h : ws.all goodWord = true) : ∀ w ∈ ws, w ∈ gc_tb := by
  intro w hw
  have h1 := List.all_eq_true.mp h w hw
  rw [hp] at hw
  obtain ⟨i, -, hi⟩ := List.mem_filterMap.mp hw
  exact List.mem_filter.mpr ⟨List.mem_of_getElem? hi, h1⟩
theorem gc_e0 : (gc_cd 0).all (gc_okE 0) = true := by decide +kernel
theorem gc_h0 : gc_chain (gc_cd 0) = true := by decide +kernel
theorem gc_M0 : gc_okM 0 := by
  have h := gc_inL [Cond.code (gc_mN 0) (gc_mB 0) (gc_mL 0) (gc_mR 0), Cond.initialized (gc_mN 0).cls, Cond.instanceMethod (gc_mN 0)] [337, 146, 336] (by decide +kernel) (by decide +kernel)
  exact ⟨h _ List.mem_cons_self, h _ (List.mem_cons_of_mem _ List.mem_cons_self), by decide +kernel, by decide +kernel, by decide +kernel, by decide +kernel, by decide +kernel, fun h => absurd h (by decide +kernel), fun h => absurd h (by decide +kernel), fun _ => ⟨by decide +kernel, h _ (List.mem_cons_of_mem _ (List.mem_cons_of_mem _ List.mem_cons_self)), by decide +kernel⟩⟩
theorem gc_e1 : (gc_cd 1).all (gc_okE 1) = true := by decide +kernel
theorem gc_h1 : gc_chain (gc_cd 1) = true := by decide +kernel
theorem gc_M1 : gc_okM 1 := by
  have h := gc_inL [Cond.code (gc_mN 1) (gc_mB 1) (gc_mL 1) (gc_mR 1), Cond.initialized (gc_mN 1).cls, Cond.instanceMethod (gc_mN 1), Cond.selects (gc_mN 1).cls (gc_mN 1) (gc_mN 1)] [920, 146, 918, 919] (by decide +kernel) (by decide +kernel)
  exact ⟨h _ List.mem_cons_self, h _ (List.mem_cons_of_mem _ List.mem_cons_self), by decide +kernel, by decide +kernel, by decide +kernel, by decide +kernel, by decide +kernel, fun h => absurd h (by decide +kernel), fun _ => ⟨h _ (List.mem_cons_of_mem _ (List.mem_cons_of_mem _ List.mem_cons_self)), h _ (List.mem_cons_of_mem _ (List.mem_cons_of_mem _ (List.mem_cons_of_mem _ List.mem_cons_self))), _, rfl, by decide +kernel⟩, fun h => absurd h (by decide +kernel)⟩
theorem gc_e2 : (gc_cd 2).all (gc_okE 2) = true := by decide +kernel
theorem gc_h2 : gc_chain (gc_cd 2) = true := by decide +kernel
theorem gc_M2 : gc_okM 2 := by
  have h := gc_inL [Cond.code (gc_mN 2) (gc_mB 2) (gc_mL 2) (gc_mR 2), Cond.initialized (gc_mN 2).cls, Cond.instanceMethod (gc_mN 2), Cond.selects (gc_mN 2).cls (gc_mN 2) (gc_mN 2)] [924, 146, 923, 20] (by decide +kernel) (by decide +kernel)
  exact ⟨h _ List.mem_cons_self, h _ (List.mem_cons_of_mem _ List.mem_cons_self), by decide +kernel, by decide +kernel, by decide +kernel, by decide +kernel, by decide +kernel, fun h => absurd h (by decide +kernel), fun _ => ⟨h _ (List.mem_cons_of_mem _ (List.mem_cons_of_mem _ List.mem_cons_self)), h _ (List.mem_cons_of_mem _ (List.mem_cons_of_mem _ (List.mem_cons_of_mem _ List.mem_cons_self))), _, rfl, by decide +kernel⟩, fun h => absurd h (by decide +kernel)⟩
theorem gc_e3 : (gc_cd 3).all (gc_okE 3) = true := by decide +kernel
theorem gc_h3 : gc_chain (gc_cd 3) = true := by decide +kernel
theorem gc_M3 : gc_okM 3 := by
  have h := gc_inL [Cond.code (gc_mN 3) (gc_mB 3) (gc_mL 3) (gc_mR 3), Cond.initialized (gc_mN 3).cls, Cond.instanceMethod (gc_mN 3), Cond.selects (gc_mN 3).cls (gc_mN 3) (gc_mN 3)] [988, 146, 986, 987] (by decide +kernel) (by decide +kernel)
  exact ⟨h _ List.mem_cons_self, h _ (List.mem_cons_of_mem _ List.mem_cons_self), by decide +kernel, by decide +kernel, by decide +kernel, by decide +kernel, by decide +kernel, fun h => absurd h (by decide +kernel), fun _ => ⟨h _ (List.mem_cons_of_mem _ (List.mem_cons_of_mem _ List.mem_cons_self)), h _ (List.mem_cons_of_mem _ (List.mem_cons_of_mem _ (List.mem_cons_of_mem _ List.mem_cons_self))), _, rfl, by decide +kernel⟩, fun h => absurd h (by decide +kernel)⟩
theorem gc_e4 : (gc_cd 4).all (gc_okE 4) = true := by decide +kernel
theorem gc_h4 : gc_chain (gc_cd 4) = true := by decide +kernel
theorem gc_M4 : gc_okM 4 := by
  have h := gc_inL [Cond.code (gc_mN 4) (gc_mB 4) (gc_mL 4) (gc_mR 4), Cond.initialized (gc_mN 4).cls, Cond.static (gc_mN 4)] [1084, 146, 1083] (by decide +kernel) (by decide +kernel)
  exact ⟨h _ List.mem_cons_self, h _ (List.mem_cons_of_mem _ List.mem_cons_self), by decide +kernel, by decide +kernel, by decide +kernel, by decide +kernel, by decide +kernel, fun _ => h _ (List.mem_cons_of_mem _ (List.mem_cons_of_mem _ List.mem_cons_self)), fun h => absurd h (by decide +kernel), fun h => absurd h (by decide +kernel)⟩
theorem gc_e5 : (gc_cd 5).all (gc_okE 5) = true := by decide +kernel
theorem gc_h5 : gc_chain (gc_cd 5) = true := by decide +kernel
theorem gc_M5 : gc_okM 5 := by
  have h := gc_inL [Cond.code (gc_mN 5) (gc_mB 5) (gc_mL 5) (gc_mR 5), Cond.initialized (gc_mN 5).cls, Cond.instanceMethod (gc_mN 5), Cond.selects (gc_mN 5).cls (gc_mN 5) (gc_mN 5)] [1102, 146, 1100, 1101] (by decide +kernel) (by decide +kernel)
  exact ⟨h _ List.mem_cons_self, h _ (List.mem_cons_of_mem _ List.mem_cons_self), by decide +kernel, by decide +kernel, by decide +kernel, by decide +kernel, by decide +kernel, fun h => absurd h (by decide +kernel), fun _ => ⟨h _ (List.mem_cons_of_mem _ (List.mem_cons_of_mem _ List.mem_cons_self)), h _ (List.mem_cons_of_mem _ (List.mem_cons_of_mem _ (List.mem_cons_of_mem _ List.mem_cons_self))), _, rfl, by decide +kernel⟩, fun h => absurd h (by decide +kernel)⟩
theorem gc_e6 : (gc_cd 6).all (gc_okE 6) = true := by decide +kernel
theorem gc_h6 : gc_chain (gc_cd 6) = true := by decide +kernel
theorem gc_M6 : gc_okM 6 := by
  have h := gc_inL [Cond.code (gc_mN 6) (gc_mB 6) (gc_mL 6) (gc_mR 6), Cond.initialized (gc_mN 6).cls, Cond.instanceMethod (gc_mN 6), Cond.selects (gc_mN 6).cls (gc_mN 6) (gc_mN 6)] [1152, 146, 1150, 1151] (by decide +kernel) (by decide +kernel)
  exact ⟨h _ List.mem_cons_self, h _ (List.mem_cons_of_mem _ List.mem_cons_self), by decide +kernel, by decide +kernel, by decide +kernel, by decide +kernel, by decide +kernel, fun h => absurd h (by decide +kernel), fun _ => ⟨h _ (List.mem_cons_of_mem _ (List.mem_cons_of_mem _ List.mem_cons_self)), h _ (List.mem_cons_of_mem _ (List.mem_cons_of_mem _ (List.mem_cons_of_mem _ List.mem_cons_self))), _, rfl, by decide +kernel⟩, fun h => absurd h (by decide +kernel)⟩
theorem gc_e7 : (gc_cd 7).all (gc_okE 7) = true := by decide +kernel
theorem gc_h7 : gc_chain (gc_cd 7) = true := by decide +kernel
theorem gc_M7 : gc_okM 7 := by
  have h := gc_inL [Cond.code (gc_mN 7) (gc_mB 7) (gc_mL 7) (gc_mR 7), Cond.initialized (gc_mN 7).cls, Cond.instanceMethod (gc_mN 7), Cond.selects (gc_mN 7).cls (gc_mN 7) (gc_mN 7)] [1081, 146, 1079, 1080] (by decide +kernel) (by decide +kernel)
  exact ⟨h _ List.mem_cons_self, h _ (List.mem_cons_of_mem _ List.mem_cons_self), by decide +kernel, by decide +kernel, by decide +kernel, by decide +kernel, by decide +kernel, fun h => absurd h (by decide +kernel), fun _ => ⟨h _ (List.mem_cons_of_mem _ (List.mem_cons_of_mem _ List.mem_cons_self)), h _ (List.mem_cons_of_mem _ (List.mem_cons_of_mem _ (List.mem_cons_of_mem _ List.mem_cons_self))), _, rfl, by decide +kernel⟩, fun h => absurd h (by decide +kernel)⟩
theorem gc_e8 : (gc_cd 8).all (gc_okE 8) = true := by decide +kernel
theorem gc_h8 : gc_chain (gc_cd 8) = true := by decide +kernel
theorem gc_M8 : gc_okM 8 := by
  have h := gc_inL [Cond.code (gc_mN 8) (gc_mB 8) (gc_mL 8) (gc_mR 8), Cond.initialized (gc_mN 8).cls, Cond.instanceMethod (gc_mN 8), Cond.selects (gc_mN 8).cls (gc_mN 8) (gc_mN 8)] [1091, 146, 1090, 35] (by decide +kernel) (by decide +kernel)
  exact ⟨h _ List.mem_cons_self, h _ (List.mem_cons_of_mem _ List.mem_cons_self), by decide +kernel, by decide +kernel, by decide +kernel, by decide +kernel, by decide +kernel, fun h => absurd h (by decide +kernel), fun _ => ⟨h _ (List.mem_cons_of_mem _ (List.mem_cons_of_mem _ List.mem_cons_self)), h _ (List.mem_cons_of_mem _ (List.mem_cons_of_mem _ (List.mem_cons_of_mem _ List.mem_cons_self))), _, rfl, by decide +kernel⟩, fun h => absurd h (by decide +kernel)⟩
theorem gc_e9 : (gc_cd 9).all (gc_okE 9) = true := by decide +kernel
theorem gc_h9 : gc_chain (gc_cd 9) = true := by decide +kernel
theorem gc_M9 : gc_okM 9 := by
  have h := gc_inL [Cond.code (gc_mN 9) (gc_mB 9) (gc_mL 9) (gc_mR 9), Cond.initialized (gc_mN 9).cls, Cond.instanceMethod (gc_mN 9), Cond.selects (gc_mN 9).cls (gc_mN 9) (gc_mN 9)] [1098, 146, 1097, 36] (by decide +kernel) (by decide +kernel)
  exact ⟨h _ List.mem_cons_self, h _ (List.mem_cons_of_mem _ List.mem_cons_self), by decide +kernel, by decide +kernel, by decide +kernel, by decide +kernel, by decide +kernel, fun h => absurd h (by decide +kernel), fun _ => ⟨h _ (List.mem_cons_of_mem _ (List.mem_cons_of_mem _ List.mem_cons_self)), h _ (List.mem_cons_of_mem _ (List.mem_cons_of_mem _ (List.mem_cons_of_mem _ List.mem_cons_self))), _, rfl, by decide +kernel⟩, fun h => absurd h (by decide +kernel)⟩
theorem gc_e10 : (gc_cd 10).all (gc_okE 10) = true := by decide +kernel
theorem gc_h10 : gc_chain (gc_cd 10) = true := by decide +kernel
theorem gc_M10 : gc_okM 10 := by
  have h := gc_inL [Cond.code (gc_mN 10) (gc_mB 10) (gc_mL 10) (gc_mR 10), Cond.initialized (gc_mN 10).cls, Cond.instanceMethod (gc_mN 10), Cond.selects (gc_mN 10).cls (gc_mN 10) (gc_mN 10)] [1106, 146, 1105, 37] (by decide +kernel) (by decide +kernel)
  exact ⟨h _ List.mem_cons_self, h _ (List.mem_cons_of_mem _ List.mem_cons_self), by decide +kernel, by decide +kernel, by decide +kernel, by decide +kernel, by decide +kernel, fun h => absurd h (by decide +kernel), fun _ => ⟨h _ (List.mem_cons_of_mem _ (List.mem_cons_of_mem _ List.mem_cons_self)), h _ (List.mem_cons_of_mem _ (List.mem_cons_of_mem _ (List.mem_cons_of_mem _ List.mem_cons_self))), _, rfl, by decide +kernel⟩, fun h => absurd h (by decide +kernel)⟩
theorem gc_e11 : (gc_cd 11).all (gc_okE 11) = true := by decide +kernel
theorem gc_h11 : gc_chain (gc_cd 11) = true := by decide +kernel
theorem gc_M11 : gc_okM 11 := by
  have h := gc_inL [Cond.code (gc_mN 11) (gc_mB 11) (gc_mL 11) (gc_mR 11), Cond.initialized (gc_mN 11).cls, Cond.instanceMethod (gc_mN 11), Cond.selects (gc_mN 11).cls (gc_mN 11) (gc_mN 11)] [1114, 146, 1113, 38] (by decide +kernel) (by decide +kernel)
  exact ⟨h _ List.mem_cons_self, h _ (List.mem_cons_of_mem _ List.mem_cons_self), by decide +kernel, by decide +kernel, by decide +kernel, by decide +kernel, by decide +kernel, fun h => absurd h (by decide +kernel), fun _ => ⟨h _ (List.mem_cons_of_mem _ (List.mem_cons_of_mem _ List.mem_cons_self)), h _ (List.mem_cons_of_mem _ (List.mem_cons_of_mem _ (List.mem_cons_of_mem _ List.mem_cons_self))), _, rfl, by decide +kernel⟩, fun h => absurd h (by decide +kernel)⟩
theorem gc_e12 : (gc_cd 12).all (gc_okE 12) = true := by decide +kernel
theorem gc_h12 : gc_chain (gc_cd 12) = true := by decide +kernel
theorem gc_M12 : gc_okM 12 := by
  have h := gc_inL [Cond.code (gc_mN 12) (gc_mB 12) (gc_mL 12) (gc_mR 12), Cond.initialized (gc_mN 12).cls, Cond.instanceMethod (gc_mN 12), Cond.selects (gc_mN 12).cls (gc_mN 12) (gc_mN 12)] [1122, 146, 1121, 39] (by decide +kernel) (by decide +kernel)
  exact ⟨h _ List.mem_cons_self, h _ (List.mem_cons_of_mem _ List.mem_cons_self), by decide +kernel, by decide +kernel, by decide +kernel, by decide +kernel, by decide +kernel, fun h => absurd h (by decide +kernel), fun _ => ⟨h _ (List.mem_cons_of_mem _ (List.mem_cons_of_mem _ List.mem_cons_self)), h _ (List.mem_cons_of_mem _ (List.mem_cons_of_mem _ (List.mem_cons_of_mem _ List.mem_cons_self))), _, rfl, by decide +kernel⟩, fun h => absurd h (by decide +kernel)⟩
theorem gc_e13 : (gc_cd 13).all (gc_okE 13) = true := by decide +kernel
theorem gc_h13 : gc_chain (gc_cd 13) = true := by decide +kernel
theorem gc_M13 : gc_okM 13 := by
  have h := gc_inL [Cond.code (gc_mN 13) (gc_mB 13) (gc_mL 13) (gc_mR 13), Cond.initialized (gc_mN 13).cls, Cond.instanceMethod (gc_mN 13), Cond.selects (gc_mN 13).cls (gc_mN 13) (gc_mN 13)] [1126, 146, 1125, 40] (by decide +kernel) (by decide +kernel)
  exact ⟨h _ List.mem_cons_self, h _ (List.mem_cons_of_mem _ List.mem_cons_self), by decide +kernel, by decide +kernel, by decide +kernel, by decide +kernel, by decide +kernel, fun h => absurd h (by decide +kernel), fun _ => ⟨h _ (List.mem_cons_of_mem _ (List.mem_cons_of_mem _ List.mem_cons_self)), h _ (List.mem_cons_of_mem _ (List.mem_cons_of_mem _ (List.mem_cons_of_mem _ List.mem_cons_self))), _, rfl, by decide +kernel⟩, fun h => absurd h (by decide +kernel)⟩
theorem gc_e14 : (gc_cd 14).all (gc_okE 14) = true := by decide +kernel
theorem gc_h14 : gc_chain (gc_cd 14) = true := by decide +kernel
theorem gc_M14 : gc_okM 14 := by
  have h := gc_inL [Cond.code (gc_mN 14) (gc_mB 14) (gc_mL 14) (gc_mR 14), Cond.initialized (gc_mN 14).cls, Cond.instanceMethod (gc_mN 14), Cond.selects (gc_mN 14).cls (gc_mN 14) (gc_mN 14)] [1134, 146, 1133, 41] (by decide +kernel) (by decide +kernel)
  exact ⟨h _ List.mem_cons_self, h _ (List.mem_cons_of_mem _ List.mem_cons_self), by decide +kernel, by decide +kernel, by decide +kernel, by decide +kernel, by decide +kernel, fun h => absurd h (by decide +kernel), fun _ => ⟨h _ (List.mem_cons_of_mem _ (List.mem_cons_of_mem _ List.mem_cons_self)), h _ (List.mem_cons_of_mem _ (List.mem_cons_of_mem _ (List.mem_cons_of_mem _ List.mem_cons_self))), _, rfl, by decide +kernel⟩, fun h => absurd h (by decide +kernel)⟩
theorem gc_e15 : (gc_cd 15).all (gc_okE 15) = true := by decide +kernel
theorem gc_h15 : gc_chain (gc_cd 15) = true := by decide +kernel
theorem gc_M15 : gc_okM 15 := by
  have h := gc_inL [Cond.code (gc_mN 15) (gc_mB 15) (gc_mL 15) (gc_mR 15), Cond.initialized (gc_mN 15).cls, Cond.instanceMethod (gc_mN 15), Cond.selects (gc_mN 15).cls (gc_mN 15) (gc_mN 15)] [1139, 146, 1138, 42] (by decide +kernel) (by decide +kernel)
  exact ⟨h _ List.mem_cons_self, h _ (List.mem_cons_of_mem _ List.mem_cons_self), by decide +kernel, by decide +kernel, by decide +kernel, by decide +kernel, by decide +kernel, fun h => absurd h (by decide +kernel), fun _ => ⟨h _ (List.mem_cons_of_mem _ (List.mem_cons_of_mem _ List.mem_cons_self)), h _ (List.mem_cons_of_mem _ (List.mem_cons_of_mem _ (List.mem_cons_of_mem _ List.mem_cons_self))), _, rfl, by decide +kernel⟩, fun h => absurd h (by decide +kernel)⟩
theorem gc_e16 : (gc_cd 16).all (gc_okE 16) = true := by decide +kernel
theorem gc_h16 : gc_chain (gc_cd 16) = true := by decide +kernel
theorem gc_M16 : gc_okM 16 := by
  have h := gc_inL [Cond.code (gc_mN 16) (gc_mB 16) (gc_mL 16) (gc_mR 16), Cond.initialized (gc_mN 16).cls, Cond.instanceMethod (gc_mN 16), Cond.selects (gc_mN 16).cls (gc_mN 16) (gc_mN 16)] [1144, 146, 1143, 43] (by decide +kernel) (by decide +kernel)
  exact ⟨h _ List.mem_cons_self, h _ (List.mem_cons_of_mem _ List.mem_cons_self), by decide +kernel, by decide +kernel, by decide +kernel, by decide +kernel, by decide +kernel, fun h => absurd h (by decide +kernel), fun _ => ⟨h _ (List.mem_cons_of_mem _ (List.mem_cons_of_mem _ List.mem_cons_self)), h _ (List.mem_cons_of_mem _ (List.mem_cons_of_mem _ (List.mem_cons_of_mem _ List.mem_cons_self))), _, rfl, by decide +kernel⟩, fun h => absurd h (by decide +kernel)⟩
theorem gc_e17 : (gc_cd 17).all (gc_okE 17) = true := by decide +kernel
theorem gc_h17 : gc_chain (gc_cd 17) = true := by decide +kernel
theorem gc_M17 : gc_okM 17 := by
  have h := gc_inL [Cond.code (gc_mN 17) (gc_mB 17) (gc_mL 17) (gc_mR 17), Cond.initialized (gc_mN 17).cls, Cond.instanceMethod (gc_mN 17), Cond.selects (gc_mN 17).cls (gc_mN 17) (gc_mN 17)] [1148, 146, 1147, 44] (by decide +kernel) (by decide +kernel)
  exact ⟨h _ List.mem_cons_self, h _ (List.mem_cons_of_mem _ List.mem_cons_self), by decide +kernel, by decide +kernel, by decide +kernel, by decide +kernel, by decide +kernel, fun h => absurd h (by decide +kernel), fun _ => ⟨h _ (List.mem_cons_of_mem _ (List.mem_cons_of_mem _ List.mem_cons_self)), h _ (List.mem_cons_of_mem _ (List.mem_cons_of_mem _ (List.mem_cons_of_mem _ List.mem_cons_self))), _, rfl, by decide +kernel⟩, fun h => absurd h (by decide +kernel)⟩
theorem gc_e18 : (gc_cd 18).all (gc_okE 18) = true := by decide +kernel
theorem gc_h18 : gc_chain (gc_cd 18) = true := by decide +kernel
theorem gc_M18 : gc_okM 18 := by
  have h := gc_inL [Cond.code (gc_mN 18) (gc_mB 18) (gc_mL 18) (gc_mR 18), Cond.initialized (gc_mN 18).cls, Cond.static (gc_mN 18)] [1117, 146, 1116] (by decide +kernel) (by decide +kernel)
  exact ⟨h _ List.mem_cons_self, h _ (List.mem_cons_of_mem _ List.mem_cons_self), by decide +kernel, by decide +kernel, by decide +kernel, by decide +kernel, by decide +kernel, fun _ => h _ (List.mem_cons_of_mem _ (List.mem_cons_of_mem _ List.mem_cons_self)), fun h => absurd h (by decide +kernel), fun h => absurd h (by decide +kernel)⟩
theorem gc_e19 : (gc_cd 19).all (gc_okE 19) = true := by decide +kernel
theorem gc_h19 : gc_chain (gc_cd 19) = true := by decide +kernel
theorem gc_M19 : gc_okM 19 := by
  have h := gc_inL [Cond.code (gc_mN 19) (gc_mB 19) (gc_mL 19) (gc_mR 19), Cond.initialized (gc_mN 19).cls, Cond.static (gc_mN 19)] [1110, 146, 1109] (by decide +kernel) (by decide +kernel)
  exact ⟨h _ List.mem_cons_self, h _ (List.mem_cons_of_mem _ List.mem_cons_self), by decide +kernel, by decide +kernel, by decide +kernel, by decide +kernel, by decide +kernel, fun _ => h _ (List.mem_cons_of_mem _ (List.mem_cons_of_mem _ List.mem_cons_self)), fun h => absurd h (by decide +kernel), fun h => absurd h (by decide +kernel)⟩
theorem gc_e20 : (gc_cd 20).all (gc_okE 20) = true := by decide +kernel
theorem gc_h20 : gc_chain (gc_cd 20) = true := by decide +kernel
theorem gc_M20 : gc_okM 20 := by
  have h := gc_inL [Cond.code (gc_mN 20) (gc_mB 20) (gc_mL 20) (gc_mR 20), Cond.initialized (gc_mN 20).cls, Cond.instanceMethod (gc_mN 20)] [632, 152, 631] (by decide +kernel) (by decide +kernel)
  exact ⟨h _ List.mem_cons_self, h _ (List.mem_cons_of_mem _ List.mem_cons_self), by decide +kernel, by decide +kernel, by decide +kernel, by decide +kernel, by decide +kernel, fun h => absurd h (by decide +kernel), fun h => absurd h (by decide +kernel), fun _ => ⟨by decide +kernel, h _ (List.mem_cons_of_mem _ (List.mem_cons_of_mem _ List.mem_cons_self)), by decide +kernel⟩⟩
theorem gc_e21 : (gc_cd 21).all (gc_okE 21) = true := by decide +kernel
theorem gc_h21 : gc_chain (gc_cd 21) = true := by decide +kernel
theorem gc_M21 : gc_okM 21 := by
  have h := gc_inL [Cond.code (gc_mN 21) (gc_mB 21) (gc_mL 21) (gc_mR 21), Cond.initialized (gc_mN 21).cls, Cond.instanceMethod (gc_mN 21), Cond.selects (gc_mN 21).cls (gc_mN 21) (gc_mN 21)] [1326, 152, 1324, 1325] (by decide +kernel) (by decide +kernel)
  exact ⟨h _ List.mem_cons_self, h _ (List.mem_cons_of_mem _ List.mem_cons_self), by decide +kernel, by decide +kernel, by decide +kernel, by decide +kernel, by decide +kernel, fun h => absurd h (by decide +kernel), fun _ => ⟨h _ (List.mem_cons_of_mem _ (List.mem_cons_of_mem _ List.mem_cons_self)), h _ (List.mem_cons_of_mem _ (List.mem_cons_of_mem _ (List.mem_cons_of_mem _ List.mem_cons_self))), _, rfl, by decide +kernel⟩, fun h => absurd h (by decide +kernel)⟩
theorem gc_e22 : (gc_cd 22).all (gc_okE 22) = true := by decide +kernel
theorem gc_h22 : gc_chain (gc_cd 22) = true := by decide +kernel
theorem gc_M22 : gc_okM 22 := by
  have h := gc_inL [Cond.code (gc_mN 22) (gc_mB 22) (gc_mL 22) (gc_mR 22), Cond.initialized (gc_mN 22).cls, Cond.instanceMethod (gc_mN 22), Cond.selects (gc_mN 22).cls (gc_mN 22) (gc_mN 22)] [1322, 152, 1320, 1321] (by decide +kernel) (by decide +kernel)
  exact ⟨h _ List.mem_cons_self, h _ (List.mem_cons_of_mem _ List.mem_cons_self), by decide +kernel, by decide +kernel, by decide +kernel, by decide +kernel, by decide +kernel, fun h => absurd h (by decide +kernel), fun _ => ⟨h _ (List.mem_cons_of_mem _ (List.mem_cons_of_mem _ List.mem_cons_self)), h _ (List.mem_cons_of_mem _ (List.mem_cons_of_mem _ (List.mem_cons_of_mem _ List.mem_cons_self))), _, rfl, by decide +kernel⟩, fun h => absurd h (by decide +kernel)⟩
theorem gc_e23 : (gc_cd 23).all (gc_okE 23) = true := by decide +kernel
theorem gc_h23 : gc_chain (gc_cd 23) = true := by decide +kernel
theorem gc_M23 : gc_okM 23 := by
  have h := gc_inL [Cond.code (gc_mN 23) (gc_mB 23) (gc_mL 23) (gc_mR 23), Cond.initialized (gc_mN 23).cls, Cond.instanceMethod (gc_mN 23)] [343, 147, 342] (by decide +kernel) (by decide +kernel)
  exact ⟨h _ List.mem_cons_self, h _ (List.mem_cons_of_mem _ List.mem_cons_self), by decide +kernel, by decide +kernel, by decide +kernel, by decide +kernel, by decide +kernel, fun h => absurd h (by decide +kernel), fun h => absurd h (by decide +kernel), fun _ => ⟨by decide +kernel, h _ (List.mem_cons_of_mem _ (List.mem_cons_of_mem _ List.mem_cons_self)), by decide +kernel⟩⟩
theorem gc_e24 : (gc_cd 24).all (gc_okE 24) = true := by decide +kernel
theorem gc_h24 : gc_chain (gc_cd 24) = true := by decide +kernel
theorem gc_M24 : gc_okM 24 := by
  have h := gc_inL [Cond.code (gc_mN 24) (gc_mB 24) (gc_mL 24) (gc_mR 24), Cond.initialized (gc_mN 24).cls, Cond.instanceMethod (gc_mN 24), Cond.selects (gc_mN 24).cls (gc_mN 24) (gc_mN 24)] [795, 147, 793, 794] (by decide +kernel) (by decide +kernel)
  exact ⟨h _ List.mem_cons_self, h _ (List.mem_cons_of_mem _ List.mem_cons_self), by decide +kernel, by decide +kernel, by decide +kernel, by decide +kernel, by decide +kernel, fun h => absurd h (by decide +kernel), fun _ => ⟨h _ (List.mem_cons_of_mem _ (List.mem_cons_of_mem _ List.mem_cons_self)), h _ (List.mem_cons_of_mem _ (List.mem_cons_of_mem _ (List.mem_cons_of_mem _ List.mem_cons_self))), _, rfl, by decide +kernel⟩, fun h => absurd h (by decide +kernel)⟩
theorem gc_e25 : (gc_cd 25).all (gc_okE 25) = true := by decide +kernel
theorem gc_h25 : gc_chain (gc_cd 25) = true := by decide +kernel
theorem gc_M25 : gc_okM 25 := by
  have h := gc_inL [Cond.code (gc_mN 25) (gc_mB 25) (gc_mL 25) (gc_mR 25), Cond.initialized (gc_mN 25).cls, Cond.instanceMethod (gc_mN 25), Cond.selects (gc_mN 25).cls (gc_mN 25) (gc_mN 25)] [928, 147, 926, 927] (by decide +kernel) (by decide +kernel)
  exact ⟨h _ List.mem_cons_self, h _ (List.mem_cons_of_mem _ List.mem_cons_self), by decide +kernel, by decide +kernel, by decide +kernel, by decide +kernel, by decide +kernel, fun h => absurd h (by decide +kernel), fun _ => ⟨h _ (List.mem_cons_of_mem _ (List.mem_cons_of_mem _ List.mem_cons_self)), h _ (List.mem_cons_of_mem _ (List.mem_cons_of_mem _ (List.mem_cons_of_mem _ List.mem_cons_self))), _, rfl, by decide +kernel⟩, fun h => absurd h (by decide +kernel)⟩
