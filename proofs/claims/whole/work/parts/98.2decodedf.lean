theorem lqk_124 : Cond.methodLink "GroundCourtLaw" 124 (gc_mN 284) ∈ gc_tb := gc_in [_] [1982] (by decide +kernel) (by decide +kernel) _ List.mem_cons_self
theorem lqm_147 : gc_mL 147 = 3 ∧ gc_mK 147 = 1 ∧ gc_mP 147 = 1 ∧ gc_mC 147 = 10 := by decide +kernel
theorem lqm_284 : gc_mL 284 = 2 ∧ gc_mK 284 = 1 ∧ gc_mP 284 = 1 ∧ gc_mC 284 = 11 := by decide +kernel
theorem lqa_1007 : decode code 1007 = .ok (.aload_n 0, 1) ∧ decode code (1007 + 1) = .ok (.iload_n 3, 1) ∧ decode code (1007 + 2) = .ok (.iconst 1, 1) ∧ decode code (1007 + 3) = .ok (.iadd, 1) ∧ decode code (1007 + 4) = .ok (.iaload, 1) := by decide +kernel
theorem lqa_1016 : decode code 1016 = .ok (.aload_n 0, 1) ∧ decode code (1016 + 1) = .ok (.iload_n 3, 1) ∧ decode code (1016 + 2) = .ok (.iconst 1, 1) ∧ decode code (1016 + 3) = .ok (.iadd, 1) ∧ decode code (1016 + 4) = .ok (.iaload, 1) := by decide +kernel
theorem lqz_26 : decode code 1006 = .ok (.aload_n 1, 1) ∧ decode code 1012 = .ok (.invokevirtual 125, 3) ∧ decode code (1012 + 3) = .ok (.aload_n 2, 1) ∧ decode code 1021 = .ok (.invokevirtual 128, 3) ∧ decode code (1021 + 3) = .ok (.if_icmp .eq 130, 3) := by decide +kernel
theorem lqk_125 : Cond.methodLink "GroundCourtLaw" 125 (gc_mN 148) ∈ gc_tb := gc_in [_] [1253] (by decide +kernel) (by decide +kernel) _ List.mem_cons_self
theorem lqk_128 : Cond.methodLink "GroundCourtLaw" 128 (gc_mN 285) ∈ gc_tb := gc_in [_] [1986] (by decide +kernel) (by decide +kernel) _ List.mem_cons_self
theorem lqm_148 : gc_mL 148 = 2 ∧ gc_mK 148 = 1 ∧ gc_mP 148 = 1 ∧ gc_mC 148 = 10 := by decide +kernel
theorem lqm_285 : gc_mL 285 = 3 ∧ gc_mK 285 = 1 ∧ gc_mP 285 = 1 ∧ gc_mC 285 = 11 := by decide +kernel
theorem lqa_1030 : decode code 1030 = .ok (.aload_n 0, 1) ∧ decode code (1030 + 1) = .ok (.iload_n 3, 1) ∧ decode code (1030 + 2) = .ok (.iconst 1, 1) ∧ decode code (1030 + 3) = .ok (.iadd, 1) ∧ decode code (1030 + 4) = .ok (.iaload, 1) := by decide +kernel
theorem lqa_1039 : decode code 1039 = .ok (.aload_n 0, 1) ∧ decode code (1039 + 1) = .ok (.iload_n 3, 1) ∧ decode code (1039 + 2) = .ok (.iconst 1, 1) ∧ decode code (1039 + 3) = .ok (.iadd, 1) ∧ decode code (1039 + 4) = .ok (.iaload, 1) := by decide +kernel
theorem lqz_27 : decode code 1029 = .ok (.aload_n 1, 1) ∧ decode code 1035 = .ok (.invokevirtual 129, 3) ∧ decode code (1035 + 3) = .ok (.aload_n 2, 1) ∧ decode code 1044 = .ok (.invokevirtual 132, 3) ∧ decode code (1044 + 3) = .ok (.if_icmp .eq 107, 3) := by decide +kernel
theorem lqk_129 : Cond.methodLink "GroundCourtLaw" 129 (gc_mN 149) ∈ gc_tb := gc_in [_] [1257] (by decide +kernel) (by decide +kernel) _ List.mem_cons_self
theorem lqk_132 : Cond.methodLink "GroundCourtLaw" 132 (gc_mN 287) ∈ gc_tb := gc_in [_] [1990] (by decide +kernel) (by decide +kernel) _ List.mem_cons_self
theorem lqm_149 : gc_mL 149 = 2 ∧ gc_mK 149 = 1 ∧ gc_mP 149 = 1 ∧ gc_mC 149 = 10 := by decide +kernel
theorem lqm_287 : gc_mL 287 = 4 ∧ gc_mK 287 = 1 ∧ gc_mP 287 = 1 ∧ gc_mC 287 = 11 := by decide +kernel
theorem lqa_1053 : decode code 1053 = .ok (.aload_n 0, 1) ∧ decode code (1053 + 1) = .ok (.iload_n 3, 1) ∧ decode code (1053 + 2) = .ok (.iconst 1, 1) ∧ decode code (1053 + 3) = .ok (.iadd, 1) ∧ decode code (1053 + 4) = .ok (.iaload, 1) := by decide +kernel
theorem lqa_1058 : decode code 1058 = .ok (.aload_n 0, 1) ∧ decode code (1058 + 1) = .ok (.iload_n 3, 1) ∧ decode code (1058 + 2) = .ok (.iconst 2, 1) ∧ decode code (1058 + 3) = .ok (.iadd, 1) ∧ decode code (1058 + 4) = .ok (.iaload, 1) := by decide +kernel
theorem lqa_1067 : decode code 1067 = .ok (.aload_n 0, 1) ∧ decode code (1067 + 1) = .ok (.iload_n 3, 1) ∧ decode code (1067 + 2) = .ok (.iconst 1, 1) ∧ decode code (1067 + 3) = .ok (.iadd, 1) ∧ decode code (1067 + 4) = .ok (.iaload, 1) := by decide +kernel
theorem lqa_1072 : decode code 1072 = .ok (.aload_n 0, 1) ∧ decode code (1072 + 1) = .ok (.iload_n 3, 1) ∧ decode code (1072 + 2) = .ok (.iconst 2, 1) ∧ decode code (1072 + 3) = .ok (.iadd, 1) ∧ decode code (1072 + 4) = .ok (.iaload, 1) := by decide +kernel
theorem lqz_28 : decode code 1052 = .ok (.aload_n 1, 1) ∧ decode code 1063 = .ok (.invokevirtual 133, 3) ∧ decode code (1063 + 3) = .ok (.aload_n 2, 1) ∧ decode code 1077 = .ok (.invokevirtual 136, 3) ∧ decode code (1077 + 3) = .ok (.if_icmp .eq 74, 3) := by decide +kernel
theorem lqk_133 : Cond.methodLink "GroundCourtLaw" 133 (gc_mN 150) ∈ gc_tb := gc_in [_] [1263] (by decide +kernel) (by decide +kernel) _ List.mem_cons_self
theorem lqk_136 : Cond.methodLink "GroundCourtLaw" 136 (gc_mN 290) ∈ gc_tb := gc_in [_] [1997] (by decide +kernel) (by decide +kernel) _ List.mem_cons_self
theorem lqm_150 : gc_mL 150 = 7 ∧ gc_mK 150 = 1 ∧ gc_mP 150 = 2 ∧ gc_mC 150 = 10 := by decide +kernel
theorem lqm_290 : gc_mL 290 = 6 ∧ gc_mK 290 = 1 ∧ gc_mP 290 = 2 ∧ gc_mC 290 = 11 := by decide +kernel
theorem lqa_1086 : decode code 1086 = .ok (.aload_n 0, 1) ∧ decode code (1086 + 1) = .ok (.iload_n 3, 1) ∧ decode code (1086 + 2) = .ok (.iconst 1, 1) ∧ decode code (1086 + 3) = .ok (.iadd, 1) ∧ decode code (1086 + 4) = .ok (.iaload, 1) := by decide +kernel
theorem lqa_1095 : decode code 1095 = .ok (.aload_n 0, 1) ∧ decode code (1095 + 1) = .ok (.iload_n 3, 1) ∧ decode code (1095 + 2) = .ok (.iconst 1, 1) ∧ decode code (1095 + 3) = .ok (.iadd, 1) ∧ decode code (1095 + 4) = .ok (.iaload, 1) := by decide +kernel
theorem lqz_29 : decode code 1085 = .ok (.aload_n 1, 1) ∧ decode code 1091 = .ok (.invokevirtual 137, 3) ∧ decode code (1091 + 3) = .ok (.aload_n 2, 1) ∧ decode code 1100 = .ok (.invokevirtual 140, 3) ∧ decode code (1100 + 3) = .ok (.if_icmp .eq 51, 3) := by decide +kernel
theorem lqk_137 : Cond.methodLink "GroundCourtLaw" 137 (gc_mN 151) ∈ gc_tb := gc_in [_] [1274] (by decide +kernel) (by decide +kernel) _ List.mem_cons_self
theorem lqk_140 : Cond.methodLink "GroundCourtLaw" 140 (gc_mN 291) ∈ gc_tb := gc_in [_] [2008] (by decide +kernel) (by decide +kernel) _ List.mem_cons_self
theorem lqm_151 : gc_mL 151 = 2 ∧ gc_mK 151 = 1 ∧ gc_mP 151 = 1 ∧ gc_mC 151 = 10 := by decide +kernel
theorem lqm_291 : gc_mL 291 = 2 ∧ gc_mK 291 = 1 ∧ gc_mP 291 = 1 ∧ gc_mC 291 = 11 := by decide +kernel
theorem lqa_1109 : decode code 1109 = .ok (.aload_n 0, 1) ∧ decode code (1109 + 1) = .ok (.iload_n 3, 1) ∧ decode code (1109 + 2) = .ok (.iconst 1, 1) ∧ decode code (1109 + 3) = .ok (.iadd, 1) ∧ decode code (1109 + 4) = .ok (.iaload, 1) := by decide +kernel
theorem lqa_1118 : decode code 1118 = .ok (.aload_n 0, 1) ∧ decode code (1118 + 1) = .ok (.iload_n 3, 1) ∧ decode code (1118 + 2) = .ok (.iconst 1, 1) ∧ decode code (1118 + 3) = .ok (.iadd, 1) ∧ decode code (1118 + 4) = .ok (.iaload, 1) := by decide +kernel
theorem lqz_30 : decode code 1108 = .ok (.aload_n 1, 1) ∧ decode code 1114 = .ok (.invokevirtual 141, 3) ∧ decode code (1114 + 3) = .ok (.aload_n 2, 1) ∧ decode code 1123 = .ok (.invokevirtual 144, 3) ∧ decode code (1123 + 3) = .ok (.if_icmp .eq 28, 3) := by decide +kernel
theorem lqk_141 : Cond.methodLink "GroundCourtLaw" 141 (gc_mN 152) ∈ gc_tb := gc_in [_] [1279] (by decide +kernel) (by decide +kernel) _ List.mem_cons_self
theorem lqk_144 : Cond.methodLink "GroundCourtLaw" 144 (gc_mN 292) ∈ gc_tb := gc_in [_] [2012] (by decide +kernel) (by decide +kernel) _ List.mem_cons_self
theorem lqm_152 : gc_mL 152 = 2 ∧ gc_mK 152 = 1 ∧ gc_mP 152 = 1 ∧ gc_mC 152 = 10 := by decide +kernel
theorem lqm_292 : gc_mL 292 = 2 ∧ gc_mK 292 = 1 ∧ gc_mP 292 = 1 ∧ gc_mC 292 = 11 := by decide +kernel
theorem lqa_1132 : decode code 1132 = .ok (.aload_n 0, 1) ∧ decode code (1132 + 1) = .ok (.iload_n 3, 1) ∧ decode code (1132 + 2) = .ok (.iconst 1, 1) ∧ decode code (1132 + 3) = .ok (.iadd, 1) ∧ decode code (1132 + 4) = .ok (.iaload, 1) := by decide +kernel
theorem lqa_1141 : decode code 1141 = .ok (.aload_n 0, 1) ∧ decode code (1141 + 1) = .ok (.iload_n 3, 1) ∧ decode code (1141 + 2) = .ok (.iconst 1, 1) ∧ decode code (1141 + 3) = .ok (.iadd, 1) ∧ decode code (1141 + 4) = .ok (.iaload, 1) := by decide +kernel
theorem lqz_31 : decode code 1131 = .ok (.aload_n 1, 1) ∧ decode code 1137 = .ok (.invokevirtual 145, 3) ∧ decode code (1137 + 3) = .ok (.aload_n 2, 1) ∧ decode code 1146 = .ok (.invokevirtual 148, 3) ∧ decode code (1146 + 3) = .ok (.if_icmp .eq 5, 3) := by decide +kernel
theorem lqk_145 : Cond.methodLink "GroundCourtLaw" 145 (gc_mN 153) ∈ gc_tb := gc_in [_] [1283] (by decide +kernel) (by decide +kernel) _ List.mem_cons_self
theorem lqk_148 : Cond.methodLink "GroundCourtLaw" 148 (gc_mN 293) ∈ gc_tb := gc_in [_] [2016] (by decide +kernel) (by decide +kernel) _ List.mem_cons_self
theorem lqm_153 : gc_mL 153 = 3 ∧ gc_mK 153 = 1 ∧ gc_mP 153 = 1 ∧ gc_mC 153 = 10 := by decide +kernel
theorem lqm_293 : gc_mL 293 = 2 ∧ gc_mK 293 = 1 ∧ gc_mP 293 = 1 ∧ gc_mC 293 = 11 := by decide +kernel
