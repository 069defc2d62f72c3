theorem lqk_23 : Cond.methodLink "GroundCourtLaw" 23 (gc_mN 123) ∈ gc_tb := gc_in [_] [611] (by decide +kernel) (by decide +kernel) _ List.mem_cons_self
theorem lqk_27 : Cond.methodLink "GroundCourtLaw" 27 (gc_mN 190) ∈ gc_tb := gc_in [_] [1571] (by decide +kernel) (by decide +kernel) _ List.mem_cons_self
theorem lqm_123 : gc_mL 123 = 2 ∧ gc_mK 123 = 1 ∧ gc_mP 123 = 0 ∧ gc_mC 123 = 10 := by decide +kernel
theorem lqm_190 : gc_mL 190 = 2 ∧ gc_mK 190 = 1 ∧ gc_mP 190 = 0 ∧ gc_mC 190 = 11 := by decide +kernel
theorem lqa_276 : decode code 276 = .ok (.aload_n 0, 1) ∧ decode code (276 + 1) = .ok (.iload_n 3, 1) ∧ decode code (276 + 2) = .ok (.iconst 1, 1) ∧ decode code (276 + 3) = .ok (.iadd, 1) ∧ decode code (276 + 4) = .ok (.iaload, 1) := by decide +kernel
theorem lqa_285 : decode code 285 = .ok (.aload_n 0, 1) ∧ decode code (285 + 1) = .ok (.iload_n 3, 1) ∧ decode code (285 + 2) = .ok (.iconst 1, 1) ∧ decode code (285 + 3) = .ok (.iadd, 1) ∧ decode code (285 + 4) = .ok (.iaload, 1) := by decide +kernel
theorem lqz_3 : decode code 275 = .ok (.aload_n 1, 1) ∧ decode code 281 = .ok (.invokevirtual 28, 3) ∧ decode code (281 + 3) = .ok (.aload_n 2, 1) ∧ decode code 290 = .ok (.invokevirtual 31, 3) ∧ decode code (290 + 3) = .ok (.if_icmp .eq 861, 3) := by decide +kernel
theorem lqk_28 : Cond.methodLink "GroundCourtLaw" 28 (gc_mN 125) ∈ gc_tb := gc_in [_] [801] (by decide +kernel) (by decide +kernel) _ List.mem_cons_self
theorem lqk_31 : Cond.methodLink "GroundCourtLaw" 31 (gc_mN 260) ∈ gc_tb := gc_in [_] [1884] (by decide +kernel) (by decide +kernel) _ List.mem_cons_self
theorem lqm_125 : gc_mL 125 = 3 ∧ gc_mK 125 = 1 ∧ gc_mP 125 = 1 ∧ gc_mC 125 = 10 := by decide +kernel
theorem lqm_260 : gc_mL 260 = 2 ∧ gc_mK 260 = 1 ∧ gc_mP 260 = 1 ∧ gc_mC 260 = 11 := by decide +kernel
theorem lqz_4 : decode code 298 = .ok (.aload_n 1, 1) ∧ decode code 299 = .ok (.invokevirtual 32, 3) ∧ decode code (299 + 3) = .ok (.aload_n 2, 1) ∧ decode code 303 = .ok (.invokevirtual 35, 3) ∧ decode code (303 + 3) = .ok (.if_icmp .eq 848, 3) := by decide +kernel
theorem lqk_32 : Cond.methodLink "GroundCourtLaw" 32 (gc_mN 126) ∈ gc_tb := gc_in [_] [888] (by decide +kernel) (by decide +kernel) _ List.mem_cons_self
theorem lqk_35 : Cond.methodLink "GroundCourtLaw" 35 (gc_mN 191) ∈ gc_tb := gc_in [_] [1700] (by decide +kernel) (by decide +kernel) _ List.mem_cons_self
theorem lqm_126 : gc_mL 126 = 1 ∧ gc_mK 126 = 1 ∧ gc_mP 126 = 0 ∧ gc_mC 126 = 10 := by decide +kernel
theorem lqm_191 : gc_mL 191 = 1 ∧ gc_mK 191 = 1 ∧ gc_mP 191 = 0 ∧ gc_mC 191 = 11 := by decide +kernel
theorem lqa_312 : decode code 312 = .ok (.aload_n 0, 1) ∧ decode code (312 + 1) = .ok (.iload_n 3, 1) ∧ decode code (312 + 2) = .ok (.iconst 1, 1) ∧ decode code (312 + 3) = .ok (.iadd, 1) ∧ decode code (312 + 4) = .ok (.iaload, 1) := by decide +kernel
theorem lqa_321 : decode code 321 = .ok (.aload_n 0, 1) ∧ decode code (321 + 1) = .ok (.iload_n 3, 1) ∧ decode code (321 + 2) = .ok (.iconst 1, 1) ∧ decode code (321 + 3) = .ok (.iadd, 1) ∧ decode code (321 + 4) = .ok (.iaload, 1) := by decide +kernel
theorem lqz_5 : decode code 311 = .ok (.aload_n 1, 1) ∧ decode code 317 = .ok (.invokevirtual 36, 3) ∧ decode code (317 + 3) = .ok (.aload_n 2, 1) ∧ decode code 326 = .ok (.invokevirtual 39, 3) ∧ decode code (326 + 3) = .ok (.if_icmp .eq 825, 3) := by decide +kernel
theorem lqk_36 : Cond.methodLink "GroundCourtLaw" 36 (gc_mN 127) ∈ gc_tb := gc_in [_] [892] (by decide +kernel) (by decide +kernel) _ List.mem_cons_self
theorem lqk_39 : Cond.methodLink "GroundCourtLaw" 39 (gc_mN 268) ∈ gc_tb := gc_in [_] [1919] (by decide +kernel) (by decide +kernel) _ List.mem_cons_self
theorem lqm_127 : gc_mL 127 = 2 ∧ gc_mK 127 = 1 ∧ gc_mP 127 = 1 ∧ gc_mC 127 = 10 := by decide +kernel
theorem lqm_268 : gc_mL 268 = 2 ∧ gc_mK 268 = 1 ∧ gc_mP 268 = 1 ∧ gc_mC 268 = 11 := by decide +kernel
theorem lqa_335 : decode code 335 = .ok (.aload_n 0, 1) ∧ decode code (335 + 1) = .ok (.iload_n 3, 1) ∧ decode code (335 + 2) = .ok (.iconst 1, 1) ∧ decode code (335 + 3) = .ok (.iadd, 1) ∧ decode code (335 + 4) = .ok (.iaload, 1) := by decide +kernel
theorem lqa_344 : decode code 344 = .ok (.aload_n 0, 1) ∧ decode code (344 + 1) = .ok (.iload_n 3, 1) ∧ decode code (344 + 2) = .ok (.iconst 1, 1) ∧ decode code (344 + 3) = .ok (.iadd, 1) ∧ decode code (344 + 4) = .ok (.iaload, 1) := by decide +kernel
theorem lqz_6 : decode code 334 = .ok (.aload_n 1, 1) ∧ decode code 340 = .ok (.invokevirtual 40, 3) ∧ decode code (340 + 3) = .ok (.aload_n 2, 1) ∧ decode code 349 = .ok (.invokevirtual 43, 3) ∧ decode code (349 + 3) = .ok (.if_icmp .eq 802, 3) := by decide +kernel
theorem lqk_40 : Cond.methodLink "GroundCourtLaw" 40 (gc_mN 128) ∈ gc_tb := gc_in [_] [896] (by decide +kernel) (by decide +kernel) _ List.mem_cons_self
theorem lqk_43 : Cond.methodLink "GroundCourtLaw" 43 (gc_mN 224) ∈ gc_tb := gc_in [_] [1704] (by decide +kernel) (by decide +kernel) _ List.mem_cons_self
theorem lqm_128 : gc_mL 128 = 2 ∧ gc_mK 128 = 1 ∧ gc_mP 128 = 1 ∧ gc_mC 128 = 10 := by decide +kernel
theorem lqm_224 : gc_mL 224 = 2 ∧ gc_mK 224 = 1 ∧ gc_mP 224 = 1 ∧ gc_mC 224 = 11 := by decide +kernel
theorem lqa_358 : decode code 358 = .ok (.aload_n 0, 1) ∧ decode code (358 + 1) = .ok (.iload_n 3, 1) ∧ decode code (358 + 2) = .ok (.iconst 1, 1) ∧ decode code (358 + 3) = .ok (.iadd, 1) ∧ decode code (358 + 4) = .ok (.iaload, 1) := by decide +kernel
theorem lqa_367 : decode code 367 = .ok (.aload_n 0, 1) ∧ decode code (367 + 1) = .ok (.iload_n 3, 1) ∧ decode code (367 + 2) = .ok (.iconst 1, 1) ∧ decode code (367 + 3) = .ok (.iadd, 1) ∧ decode code (367 + 4) = .ok (.iaload, 1) := by decide +kernel
theorem lqz_7 : decode code 357 = .ok (.aload_n 1, 1) ∧ decode code 363 = .ok (.invokevirtual 44, 3) ∧ decode code (363 + 3) = .ok (.aload_n 2, 1) ∧ decode code 372 = .ok (.invokevirtual 47, 3) ∧ decode code (372 + 3) = .ok (.if_icmp .eq 779, 3) := by decide +kernel
theorem lqk_44 : Cond.methodLink "GroundCourtLaw" 44 (gc_mN 129) ∈ gc_tb := gc_in [_] [904] (by decide +kernel) (by decide +kernel) _ List.mem_cons_self
theorem lqk_47 : Cond.methodLink "GroundCourtLaw" 47 (gc_mN 225) ∈ gc_tb := gc_in [_] [1715] (by decide +kernel) (by decide +kernel) _ List.mem_cons_self
theorem lqm_129 : gc_mL 129 = 2 ∧ gc_mK 129 = 1 ∧ gc_mP 129 = 1 ∧ gc_mC 129 = 10 := by decide +kernel
theorem lqm_225 : gc_mL 225 = 2 ∧ gc_mK 225 = 1 ∧ gc_mP 225 = 1 ∧ gc_mC 225 = 11 := by decide +kernel
theorem lqa_381 : decode code 381 = .ok (.aload_n 0, 1) ∧ decode code (381 + 1) = .ok (.iload_n 3, 1) ∧ decode code (381 + 2) = .ok (.iconst 1, 1) ∧ decode code (381 + 3) = .ok (.iadd, 1) ∧ decode code (381 + 4) = .ok (.iaload, 1) := by decide +kernel
theorem lqa_386 : decode code 386 = .ok (.aload_n 0, 1) ∧ decode code (386 + 1) = .ok (.iload_n 3, 1) ∧ decode code (386 + 2) = .ok (.iconst 2, 1) ∧ decode code (386 + 3) = .ok (.iadd, 1) ∧ decode code (386 + 4) = .ok (.iaload, 1) := by decide +kernel
theorem lqa_395 : decode code 395 = .ok (.aload_n 0, 1) ∧ decode code (395 + 1) = .ok (.iload_n 3, 1) ∧ decode code (395 + 2) = .ok (.iconst 1, 1) ∧ decode code (395 + 3) = .ok (.iadd, 1) ∧ decode code (395 + 4) = .ok (.iaload, 1) := by decide +kernel
theorem lqa_400 : decode code 400 = .ok (.aload_n 0, 1) ∧ decode code (400 + 1) = .ok (.iload_n 3, 1) ∧ decode code (400 + 2) = .ok (.iconst 2, 1) ∧ decode code (400 + 3) = .ok (.iadd, 1) ∧ decode code (400 + 4) = .ok (.iaload, 1) := by decide +kernel
theorem lqz_8 : decode code 380 = .ok (.aload_n 1, 1) ∧ decode code 391 = .ok (.invokevirtual 48, 3) ∧ decode code (391 + 3) = .ok (.aload_n 2, 1) ∧ decode code 405 = .ok (.invokevirtual 52, 3) ∧ decode code (405 + 3) = .ok (.if_icmp .eq 746, 3) := by decide +kernel
theorem lqk_48 : Cond.methodLink "GroundCourtLaw" 48 (gc_mN 130) ∈ gc_tb := gc_in [_] [909] (by decide +kernel) (by decide +kernel) _ List.mem_cons_self
theorem lqk_52 : Cond.methodLink "GroundCourtLaw" 52 (gc_mN 226) ∈ gc_tb := gc_in [_] [1719] (by decide +kernel) (by decide +kernel) _ List.mem_cons_self
theorem lqm_130 : gc_mL 130 = 3 ∧ gc_mK 130 = 1 ∧ gc_mP 130 = 2 ∧ gc_mC 130 = 10 := by decide +kernel
theorem lqm_226 : gc_mL 226 = 3 ∧ gc_mK 226 = 1 ∧ gc_mP 226 = 2 ∧ gc_mC 226 = 11 := by decide +kernel
theorem lqa_414 : decode code 414 = .ok (.aload_n 0, 1) ∧ decode code (414 + 1) = .ok (.iload_n 3, 1) ∧ decode code (414 + 2) = .ok (.iconst 1, 1) ∧ decode code (414 + 3) = .ok (.iadd, 1) ∧ decode code (414 + 4) = .ok (.iaload, 1) := by decide +kernel
theorem lqa_419 : decode code 419 = .ok (.aload_n 0, 1) ∧ decode code (419 + 1) = .ok (.iload_n 3, 1) ∧ decode code (419 + 2) = .ok (.iconst 2, 1) ∧ decode code (419 + 3) = .ok (.iadd, 1) ∧ decode code (419 + 4) = .ok (.iaload, 1) := by decide +kernel
theorem lqb_424 : decode code 424 = .ok (.ifCond .eq 7, 3) ∧ decode code (424 + 3) = .ok (.iconst 1, 1) ∧ decode code (424 + 4) = .ok (.goto 4, 3) ∧ decode code (424 + 7) = .ok (.iconst 0, 1) := by decide +kernel
theorem lqa_436 : decode code 436 = .ok (.aload_n 0, 1) ∧ decode code (436 + 1) = .ok (.iload_n 3, 1) ∧ decode code (436 + 2) = .ok (.iconst 1, 1) ∧ decode code (436 + 3) = .ok (.iadd, 1) ∧ decode code (436 + 4) = .ok (.iaload, 1) := by decide +kernel
