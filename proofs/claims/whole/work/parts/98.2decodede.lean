theorem lqk_99 : Cond.methodLink "GroundCourtLaw" 99 (gc_mN 252) ∈ gc_tb := gc_in [_] [1848] (by decide +kernel) (by decide +kernel) _ List.mem_cons_self
theorem lqm_141 : gc_mL 141 = 6 ∧ gc_mK 141 = 1 ∧ gc_mP 141 = 5 ∧ gc_mC 141 = 10 := by decide +kernel
theorem lqm_252 : gc_mL 252 = 6 ∧ gc_mK 252 = 1 ∧ gc_mP 252 = 5 ∧ gc_mC 252 = 11 := by decide +kernel
theorem lqa_829 : decode code 829 = .ok (.aload_n 0, 1) ∧ decode code (829 + 1) = .ok (.iload_n 3, 1) ∧ decode code (829 + 2) = .ok (.iconst 1, 1) ∧ decode code (829 + 3) = .ok (.iadd, 1) ∧ decode code (829 + 4) = .ok (.iaload, 1) := by decide +kernel
theorem lqa_834 : decode code 834 = .ok (.aload_n 0, 1) ∧ decode code (834 + 1) = .ok (.iload_n 3, 1) ∧ decode code (834 + 2) = .ok (.iconst 2, 1) ∧ decode code (834 + 3) = .ok (.iadd, 1) ∧ decode code (834 + 4) = .ok (.iaload, 1) := by decide +kernel
theorem lqa_843 : decode code 843 = .ok (.aload_n 0, 1) ∧ decode code (843 + 1) = .ok (.iload_n 3, 1) ∧ decode code (843 + 2) = .ok (.iconst 1, 1) ∧ decode code (843 + 3) = .ok (.iadd, 1) ∧ decode code (843 + 4) = .ok (.iaload, 1) := by decide +kernel
theorem lqa_848 : decode code 848 = .ok (.aload_n 0, 1) ∧ decode code (848 + 1) = .ok (.iload_n 3, 1) ∧ decode code (848 + 2) = .ok (.iconst 2, 1) ∧ decode code (848 + 3) = .ok (.iadd, 1) ∧ decode code (848 + 4) = .ok (.iaload, 1) := by decide +kernel
theorem lqz_20 : decode code 828 = .ok (.aload_n 1, 1) ∧ decode code 839 = .ok (.invokevirtual 100, 3) ∧ decode code (839 + 3) = .ok (.aload_n 2, 1) ∧ decode code 853 = .ok (.invokevirtual 103, 3) ∧ decode code (853 + 3) = .ok (.if_icmp .eq 298, 3) := by decide +kernel
theorem lqk_100 : Cond.methodLink "GroundCourtLaw" 100 (gc_mN 142) ∈ gc_tb := gc_in [_] [1158] (by decide +kernel) (by decide +kernel) _ List.mem_cons_self
theorem lqk_103 : Cond.methodLink "GroundCourtLaw" 103 (gc_mN 272) ∈ gc_tb := gc_in [_] [1923] (by decide +kernel) (by decide +kernel) _ List.mem_cons_self
theorem lqm_142 : gc_mL 142 = 8 ∧ gc_mK 142 = 1 ∧ gc_mP 142 = 2 ∧ gc_mC 142 = 10 := by decide +kernel
theorem lqm_272 : gc_mL 272 = 4 ∧ gc_mK 272 = 1 ∧ gc_mP 272 = 2 ∧ gc_mC 272 = 11 := by decide +kernel
theorem lqa_862 : decode code 862 = .ok (.aload_n 0, 1) ∧ decode code (862 + 1) = .ok (.iload_n 3, 1) ∧ decode code (862 + 2) = .ok (.iconst 1, 1) ∧ decode code (862 + 3) = .ok (.iadd, 1) ∧ decode code (862 + 4) = .ok (.iaload, 1) := by decide +kernel
theorem lqa_867 : decode code 867 = .ok (.aload_n 0, 1) ∧ decode code (867 + 1) = .ok (.iload_n 3, 1) ∧ decode code (867 + 2) = .ok (.iconst 2, 1) ∧ decode code (867 + 3) = .ok (.iadd, 1) ∧ decode code (867 + 4) = .ok (.iaload, 1) := by decide +kernel
theorem lqa_876 : decode code 876 = .ok (.aload_n 0, 1) ∧ decode code (876 + 1) = .ok (.iload_n 3, 1) ∧ decode code (876 + 2) = .ok (.iconst 1, 1) ∧ decode code (876 + 3) = .ok (.iadd, 1) ∧ decode code (876 + 4) = .ok (.iaload, 1) := by decide +kernel
theorem lqa_881 : decode code 881 = .ok (.aload_n 0, 1) ∧ decode code (881 + 1) = .ok (.iload_n 3, 1) ∧ decode code (881 + 2) = .ok (.iconst 2, 1) ∧ decode code (881 + 3) = .ok (.iadd, 1) ∧ decode code (881 + 4) = .ok (.iaload, 1) := by decide +kernel
theorem lqz_21 : decode code 861 = .ok (.aload_n 1, 1) ∧ decode code 872 = .ok (.invokevirtual 104, 3) ∧ decode code (872 + 3) = .ok (.aload_n 2, 1) ∧ decode code 886 = .ok (.invokevirtual 107, 3) ∧ decode code (886 + 3) = .ok (.if_icmp .eq 265, 3) := by decide +kernel
theorem lqk_104 : Cond.methodLink "GroundCourtLaw" 104 (gc_mN 143) ∈ gc_tb := gc_in [_] [1170] (by decide +kernel) (by decide +kernel) _ List.mem_cons_self
theorem lqk_107 : Cond.methodLink "GroundCourtLaw" 107 (gc_mN 273) ∈ gc_tb := gc_in [_] [1935] (by decide +kernel) (by decide +kernel) _ List.mem_cons_self
theorem lqm_143 : gc_mL 143 = 8 ∧ gc_mK 143 = 1 ∧ gc_mP 143 = 2 ∧ gc_mC 143 = 10 := by decide +kernel
theorem lqm_273 : gc_mL 273 = 4 ∧ gc_mK 273 = 1 ∧ gc_mP 273 = 2 ∧ gc_mC 273 = 11 := by decide +kernel
theorem lqa_895 : decode code 895 = .ok (.aload_n 0, 1) ∧ decode code (895 + 1) = .ok (.iload_n 3, 1) ∧ decode code (895 + 2) = .ok (.iconst 1, 1) ∧ decode code (895 + 3) = .ok (.iadd, 1) ∧ decode code (895 + 4) = .ok (.iaload, 1) := by decide +kernel
theorem lqa_904 : decode code 904 = .ok (.aload_n 0, 1) ∧ decode code (904 + 1) = .ok (.iload_n 3, 1) ∧ decode code (904 + 2) = .ok (.iconst 1, 1) ∧ decode code (904 + 3) = .ok (.iadd, 1) ∧ decode code (904 + 4) = .ok (.iaload, 1) := by decide +kernel
theorem lqz_22 : decode code 894 = .ok (.aload_n 1, 1) ∧ decode code 900 = .ok (.invokevirtual 108, 3) ∧ decode code (900 + 3) = .ok (.aload_n 2, 1) ∧ decode code 909 = .ok (.invokevirtual 111, 3) ∧ decode code (909 + 3) = .ok (.if_icmp .eq 242, 3) := by decide +kernel
theorem lqk_108 : Cond.methodLink "GroundCourtLaw" 108 (gc_mN 144) ∈ gc_tb := gc_in [_] [1174] (by decide +kernel) (by decide +kernel) _ List.mem_cons_self
theorem lqk_111 : Cond.methodLink "GroundCourtLaw" 111 (gc_mN 279) ∈ gc_tb := gc_in [_] [1943] (by decide +kernel) (by decide +kernel) _ List.mem_cons_self
theorem lqm_144 : gc_mL 144 = 2 ∧ gc_mK 144 = 1 ∧ gc_mP 144 = 1 ∧ gc_mC 144 = 10 := by decide +kernel
theorem lqm_279 : gc_mL 279 = 3 ∧ gc_mK 279 = 1 ∧ gc_mP 279 = 1 ∧ gc_mC 279 = 11 := by decide +kernel
theorem lqa_918 : decode code 918 = .ok (.aload_n 0, 1) ∧ decode code (918 + 1) = .ok (.iload_n 3, 1) ∧ decode code (918 + 2) = .ok (.iconst 1, 1) ∧ decode code (918 + 3) = .ok (.iadd, 1) ∧ decode code (918 + 4) = .ok (.iaload, 1) := by decide +kernel
theorem lqa_923 : decode code 923 = .ok (.aload_n 0, 1) ∧ decode code (923 + 1) = .ok (.iload_n 3, 1) ∧ decode code (923 + 2) = .ok (.iconst 2, 1) ∧ decode code (923 + 3) = .ok (.iadd, 1) ∧ decode code (923 + 4) = .ok (.iaload, 1) := by decide +kernel
theorem lqa_932 : decode code 932 = .ok (.aload_n 0, 1) ∧ decode code (932 + 1) = .ok (.iload_n 3, 1) ∧ decode code (932 + 2) = .ok (.iconst 1, 1) ∧ decode code (932 + 3) = .ok (.iadd, 1) ∧ decode code (932 + 4) = .ok (.iaload, 1) := by decide +kernel
theorem lqa_937 : decode code 937 = .ok (.aload_n 0, 1) ∧ decode code (937 + 1) = .ok (.iload_n 3, 1) ∧ decode code (937 + 2) = .ok (.iconst 2, 1) ∧ decode code (937 + 3) = .ok (.iadd, 1) ∧ decode code (937 + 4) = .ok (.iaload, 1) := by decide +kernel
theorem lqz_23 : decode code 917 = .ok (.aload_n 1, 1) ∧ decode code 928 = .ok (.invokevirtual 112, 3) ∧ decode code (928 + 3) = .ok (.aload_n 2, 1) ∧ decode code 942 = .ok (.invokevirtual 115, 3) ∧ decode code (942 + 3) = .ok (.if_icmp .eq 209, 3) := by decide +kernel
theorem lqk_112 : Cond.methodLink "GroundCourtLaw" 112 (gc_mN 145) ∈ gc_tb := gc_in [_] [1234] (by decide +kernel) (by decide +kernel) _ List.mem_cons_self
theorem lqk_115 : Cond.methodLink "GroundCourtLaw" 115 (gc_mN 280) ∈ gc_tb := gc_in [_] [1967] (by decide +kernel) (by decide +kernel) _ List.mem_cons_self
theorem lqm_145 : gc_mL 145 = 3 ∧ gc_mK 145 = 1 ∧ gc_mP 145 = 2 ∧ gc_mC 145 = 10 := by decide +kernel
theorem lqm_280 : gc_mL 280 = 7 ∧ gc_mK 280 = 1 ∧ gc_mP 280 = 2 ∧ gc_mC 280 = 11 := by decide +kernel
theorem lqa_951 : decode code 951 = .ok (.aload_n 0, 1) ∧ decode code (951 + 1) = .ok (.iload_n 3, 1) ∧ decode code (951 + 2) = .ok (.iconst 1, 1) ∧ decode code (951 + 3) = .ok (.iadd, 1) ∧ decode code (951 + 4) = .ok (.iaload, 1) := by decide +kernel
theorem lqa_956 : decode code 956 = .ok (.aload_n 0, 1) ∧ decode code (956 + 1) = .ok (.iload_n 3, 1) ∧ decode code (956 + 2) = .ok (.iconst 2, 1) ∧ decode code (956 + 3) = .ok (.iadd, 1) ∧ decode code (956 + 4) = .ok (.iaload, 1) := by decide +kernel
theorem lqa_965 : decode code 965 = .ok (.aload_n 0, 1) ∧ decode code (965 + 1) = .ok (.iload_n 3, 1) ∧ decode code (965 + 2) = .ok (.iconst 1, 1) ∧ decode code (965 + 3) = .ok (.iadd, 1) ∧ decode code (965 + 4) = .ok (.iaload, 1) := by decide +kernel
theorem lqa_970 : decode code 970 = .ok (.aload_n 0, 1) ∧ decode code (970 + 1) = .ok (.iload_n 3, 1) ∧ decode code (970 + 2) = .ok (.iconst 2, 1) ∧ decode code (970 + 3) = .ok (.iadd, 1) ∧ decode code (970 + 4) = .ok (.iaload, 1) := by decide +kernel
theorem lqz_24 : decode code 950 = .ok (.aload_n 1, 1) ∧ decode code 961 = .ok (.invokevirtual 116, 3) ∧ decode code (961 + 3) = .ok (.aload_n 2, 1) ∧ decode code 975 = .ok (.invokevirtual 119, 3) ∧ decode code (975 + 3) = .ok (.if_icmp .eq 176, 3) := by decide +kernel
theorem lqk_116 : Cond.methodLink "GroundCourtLaw" 116 (gc_mN 146) ∈ gc_tb := gc_in [_] [1239] (by decide +kernel) (by decide +kernel) _ List.mem_cons_self
theorem lqk_119 : Cond.methodLink "GroundCourtLaw" 119 (gc_mN 283) ∈ gc_tb := gc_in [_] [1971] (by decide +kernel) (by decide +kernel) _ List.mem_cons_self
theorem lqm_146 : gc_mL 146 = 5 ∧ gc_mK 146 = 1 ∧ gc_mP 146 = 2 ∧ gc_mC 146 = 10 := by decide +kernel
theorem lqm_283 : gc_mL 283 = 4 ∧ gc_mK 283 = 1 ∧ gc_mP 283 = 2 ∧ gc_mC 283 = 11 := by decide +kernel
theorem lqa_984 : decode code 984 = .ok (.aload_n 0, 1) ∧ decode code (984 + 1) = .ok (.iload_n 3, 1) ∧ decode code (984 + 2) = .ok (.iconst 1, 1) ∧ decode code (984 + 3) = .ok (.iadd, 1) ∧ decode code (984 + 4) = .ok (.iaload, 1) := by decide +kernel
theorem lqa_993 : decode code 993 = .ok (.aload_n 0, 1) ∧ decode code (993 + 1) = .ok (.iload_n 3, 1) ∧ decode code (993 + 2) = .ok (.iconst 1, 1) ∧ decode code (993 + 3) = .ok (.iadd, 1) ∧ decode code (993 + 4) = .ok (.iaload, 1) := by decide +kernel
theorem lqz_25 : decode code 983 = .ok (.aload_n 1, 1) ∧ decode code 989 = .ok (.invokevirtual 120, 3) ∧ decode code (989 + 3) = .ok (.aload_n 2, 1) ∧ decode code 998 = .ok (.invokevirtual 124, 3) ∧ decode code (998 + 3) = .ok (.if_icmp .eq 153, 3) := by decide +kernel
theorem lqk_120 : Cond.methodLink "GroundCourtLaw" 120 (gc_mN 147) ∈ gc_tb := gc_in [_] [1249] (by decide +kernel) (by decide +kernel) _ List.mem_cons_self
