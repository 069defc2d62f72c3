/-! The law: decoded, and its links. -/
theorem lqd_0 : decode code 0 = .ok (.new 7, 3) := by decide +kernel
theorem lqd_3 : decode code 3 = .ok (.dup, 1) := by decide +kernel
theorem lqd_4 : decode code 4 = .ok (.invokespecial 9, 3) := by decide +kernel
theorem lqd_7 : decode code 7 = .ok (.astore_n 1, 1) := by decide +kernel
theorem lqd_8 : decode code 8 = .ok (.new 10, 3) := by decide +kernel
theorem lqd_11 : decode code 11 = .ok (.dup, 1) := by decide +kernel
theorem lqd_12 : decode code 12 = .ok (.invokespecial 12, 3) := by decide +kernel
theorem lqd_15 : decode code 15 = .ok (.astore_n 2, 1) := by decide +kernel
theorem lqd_16 : decode code 16 = .ok (.iconst 0, 1) := by decide +kernel
theorem lqd_17 : decode code 17 = .ok (.istore_n 3, 1) := by decide +kernel
theorem lqd_18 : decode code 18 = .ok (.iload_n 3, 1) := by decide +kernel
theorem lqd_19 : decode code 19 = .ok (.aload_n 0, 1) := by decide +kernel
theorem lqd_20 : decode code 20 = .ok (.arraylength, 1) := by decide +kernel
theorem lqd_21 : decode code 21 = .ok (.bipush 6, 2) := by decide +kernel
theorem lqd_23 : decode code 23 = .ok (.isub, 1) := by decide +kernel
theorem lqd_24 : decode code 24 = .ok (.if_icmp .gt 1136, 3) := by decide +kernel
theorem lqd_27 : decode code 27 = .ok (.aload_n 0, 1) := by decide +kernel
theorem lqd_28 : decode code 28 = .ok (.iload_n 3, 1) := by decide +kernel
theorem lqd_29 : decode code 29 = .ok (.iaload, 1) := by decide +kernel
theorem lqd_30 : decode code 30 = .ok (.bipush 31, 2) := by decide +kernel
theorem lqd_32 : decode code 32 = .ok (.iand, 1) := by decide +kernel
theorem lqd_33 : decode code 33 = .ok (.tableswitch 1121 0 31 #[143, 206, 229, 242, 265, 278, 301, 324, 347, 380, 429, 478, 501, 534, 577, 600, 623, 646, 689, 732, 795, 828, 861, 884, 917, 950, 973, 996, 1019, 1052, 1075, 1098], 143) := by decide +kernel
theorem lqd_1154 : decode code 1154 = .ok (.iinc 3 6, 3) := by decide +kernel
theorem lqd_1157 : decode code 1157 = .ok (.goto (-1139), 3) := by decide +kernel
theorem lqd_1160 : decode code 1160 = .ok (.iconst 1, 1) := by decide +kernel
theorem lqd_1161 : decode code 1161 = .ok (.ireturn, 1) := by decide +kernel
theorem lqa_177 : decode code 177 = .ok (.aload_n 0, 1) ∧ decode code (177 + 1) = .ok (.iload_n 3, 1) ∧ decode code (177 + 2) = .ok (.iconst 1, 1) ∧ decode code (177 + 3) = .ok (.iadd, 1) ∧ decode code (177 + 4) = .ok (.iaload, 1) := by decide +kernel
theorem lqa_182 : decode code 182 = .ok (.aload_n 0, 1) ∧ decode code (182 + 1) = .ok (.iload_n 3, 1) ∧ decode code (182 + 2) = .ok (.iconst 2, 1) ∧ decode code (182 + 3) = .ok (.iadd, 1) ∧ decode code (182 + 4) = .ok (.iaload, 1) := by decide +kernel
theorem lqa_187 : decode code 187 = .ok (.aload_n 0, 1) ∧ decode code (187 + 1) = .ok (.iload_n 3, 1) ∧ decode code (187 + 2) = .ok (.iconst 3, 1) ∧ decode code (187 + 3) = .ok (.iadd, 1) ∧ decode code (187 + 4) = .ok (.iaload, 1) := by decide +kernel
theorem lqa_192 : decode code 192 = .ok (.aload_n 0, 1) ∧ decode code (192 + 1) = .ok (.iload_n 3, 1) ∧ decode code (192 + 2) = .ok (.iconst 4, 1) ∧ decode code (192 + 3) = .ok (.iadd, 1) ∧ decode code (192 + 4) = .ok (.iaload, 1) := by decide +kernel
theorem lqa_197 : decode code 197 = .ok (.aload_n 0, 1) ∧ decode code (197 + 1) = .ok (.iload_n 3, 1) ∧ decode code (197 + 2) = .ok (.iconst 5, 1) ∧ decode code (197 + 3) = .ok (.iadd, 1) ∧ decode code (197 + 4) = .ok (.iaload, 1) := by decide +kernel
theorem lqa_206 : decode code 206 = .ok (.aload_n 0, 1) ∧ decode code (206 + 1) = .ok (.iload_n 3, 1) ∧ decode code (206 + 2) = .ok (.iconst 1, 1) ∧ decode code (206 + 3) = .ok (.iadd, 1) ∧ decode code (206 + 4) = .ok (.iaload, 1) := by decide +kernel
theorem lqa_211 : decode code 211 = .ok (.aload_n 0, 1) ∧ decode code (211 + 1) = .ok (.iload_n 3, 1) ∧ decode code (211 + 2) = .ok (.iconst 2, 1) ∧ decode code (211 + 3) = .ok (.iadd, 1) ∧ decode code (211 + 4) = .ok (.iaload, 1) := by decide +kernel
theorem lqa_216 : decode code 216 = .ok (.aload_n 0, 1) ∧ decode code (216 + 1) = .ok (.iload_n 3, 1) ∧ decode code (216 + 2) = .ok (.iconst 3, 1) ∧ decode code (216 + 3) = .ok (.iadd, 1) ∧ decode code (216 + 4) = .ok (.iaload, 1) := by decide +kernel
theorem lqa_221 : decode code 221 = .ok (.aload_n 0, 1) ∧ decode code (221 + 1) = .ok (.iload_n 3, 1) ∧ decode code (221 + 2) = .ok (.iconst 4, 1) ∧ decode code (221 + 3) = .ok (.iadd, 1) ∧ decode code (221 + 4) = .ok (.iaload, 1) := by decide +kernel
theorem lqa_226 : decode code 226 = .ok (.aload_n 0, 1) ∧ decode code (226 + 1) = .ok (.iload_n 3, 1) ∧ decode code (226 + 2) = .ok (.iconst 5, 1) ∧ decode code (226 + 3) = .ok (.iadd, 1) ∧ decode code (226 + 4) = .ok (.iaload, 1) := by decide +kernel
theorem lqz_0 : decode code 176 = .ok (.aload_n 1, 1) ∧ decode code 202 = .ok (.invokevirtual 13, 3) ∧ decode code (202 + 3) = .ok (.aload_n 2, 1) ∧ decode code 231 = .ok (.invokevirtual 17, 3) ∧ decode code (231 + 3) = .ok (.if_icmp .eq 920, 3) := by decide +kernel
theorem lqk_13 : Cond.methodLink "GroundCourtLaw" 13 (gc_mN 121) ∈ gc_tb := gc_in [_] [599] (by decide +kernel) (by decide +kernel) _ List.mem_cons_self
theorem lqk_17 : Cond.methodLink "GroundCourtLaw" 17 (gc_mN 173) ∈ gc_tb := gc_in [_] [1559] (by decide +kernel) (by decide +kernel) _ List.mem_cons_self
theorem lqm_121 : gc_mL 121 = 6 ∧ gc_mK 121 = 1 ∧ gc_mP 121 = 5 ∧ gc_mC 121 = 10 := by decide +kernel
theorem lqm_173 : gc_mL 173 = 6 ∧ gc_mK 173 = 1 ∧ gc_mP 173 = 5 ∧ gc_mC 173 = 11 := by decide +kernel
theorem lqa_240 : decode code 240 = .ok (.aload_n 0, 1) ∧ decode code (240 + 1) = .ok (.iload_n 3, 1) ∧ decode code (240 + 2) = .ok (.iconst 1, 1) ∧ decode code (240 + 3) = .ok (.iadd, 1) ∧ decode code (240 + 4) = .ok (.iaload, 1) := by decide +kernel
theorem lqa_249 : decode code 249 = .ok (.aload_n 0, 1) ∧ decode code (249 + 1) = .ok (.iload_n 3, 1) ∧ decode code (249 + 2) = .ok (.iconst 1, 1) ∧ decode code (249 + 3) = .ok (.iadd, 1) ∧ decode code (249 + 4) = .ok (.iaload, 1) := by decide +kernel
theorem lqz_1 : decode code 239 = .ok (.aload_n 1, 1) ∧ decode code 245 = .ok (.invokevirtual 18, 3) ∧ decode code (245 + 3) = .ok (.aload_n 2, 1) ∧ decode code 254 = .ok (.invokevirtual 22, 3) ∧ decode code (254 + 3) = .ok (.if_icmp .eq 897, 3) := by decide +kernel
theorem lqk_18 : Cond.methodLink "GroundCourtLaw" 18 (gc_mN 122) ∈ gc_tb := gc_in [_] [607] (by decide +kernel) (by decide +kernel) _ List.mem_cons_self
theorem lqk_22 : Cond.methodLink "GroundCourtLaw" 22 (gc_mN 175) ∈ gc_tb := gc_in [_] [1567] (by decide +kernel) (by decide +kernel) _ List.mem_cons_self
theorem lqm_122 : gc_mL 122 = 2 ∧ gc_mK 122 = 1 ∧ gc_mP 122 = 1 ∧ gc_mC 122 = 10 := by decide +kernel
theorem lqm_175 : gc_mL 175 = 2 ∧ gc_mK 175 = 1 ∧ gc_mP 175 = 1 ∧ gc_mC 175 = 11 := by decide +kernel
theorem lqz_2 : decode code 262 = .ok (.aload_n 1, 1) ∧ decode code 263 = .ok (.invokevirtual 23, 3) ∧ decode code (263 + 3) = .ok (.aload_n 2, 1) ∧ decode code 267 = .ok (.invokevirtual 27, 3) ∧ decode code (267 + 3) = .ok (.if_icmp .eq 884, 3) := by decide +kernel
