theorem lqa_441 : decode code 441 = .ok (.aload_n 0, 1) ∧ decode code (441 + 1) = .ok (.iload_n 3, 1) ∧ decode code (441 + 2) = .ok (.iconst 2, 1) ∧ decode code (441 + 3) = .ok (.iadd, 1) ∧ decode code (441 + 4) = .ok (.iaload, 1) := by decide +kernel
theorem lqb_446 : decode code 446 = .ok (.ifCond .eq 7, 3) ∧ decode code (446 + 3) = .ok (.iconst 1, 1) ∧ decode code (446 + 4) = .ok (.goto 4, 3) ∧ decode code (446 + 7) = .ok (.iconst 0, 1) := by decide +kernel
theorem lqz_9 : decode code 413 = .ok (.aload_n 1, 1) ∧ decode code 432 = .ok (.invokevirtual 53, 3) ∧ decode code (432 + 3) = .ok (.aload_n 2, 1) ∧ decode code 454 = .ok (.invokevirtual 57, 3) ∧ decode code (454 + 3) = .ok (.if_icmp .eq 697, 3) := by decide +kernel
theorem lqk_53 : Cond.methodLink "GroundCourtLaw" 53 (gc_mN 131) ∈ gc_tb := gc_in [_] [913] (by decide +kernel) (by decide +kernel) _ List.mem_cons_self
theorem lqk_57 : Cond.methodLink "GroundCourtLaw" 57 (gc_mN 227) ∈ gc_tb := gc_in [_] [1723] (by decide +kernel) (by decide +kernel) _ List.mem_cons_self
theorem lqm_131 : gc_mL 131 = 3 ∧ gc_mK 131 = 1 ∧ gc_mP 131 = 2 ∧ gc_mC 131 = 10 := by decide +kernel
theorem lqm_227 : gc_mL 227 = 3 ∧ gc_mK 227 = 1 ∧ gc_mP 227 = 2 ∧ gc_mC 227 = 11 := by decide +kernel
theorem lqa_463 : decode code 463 = .ok (.aload_n 0, 1) ∧ decode code (463 + 1) = .ok (.iload_n 3, 1) ∧ decode code (463 + 2) = .ok (.iconst 1, 1) ∧ decode code (463 + 3) = .ok (.iadd, 1) ∧ decode code (463 + 4) = .ok (.iaload, 1) := by decide +kernel
theorem lqa_468 : decode code 468 = .ok (.aload_n 0, 1) ∧ decode code (468 + 1) = .ok (.iload_n 3, 1) ∧ decode code (468 + 2) = .ok (.iconst 2, 1) ∧ decode code (468 + 3) = .ok (.iadd, 1) ∧ decode code (468 + 4) = .ok (.iaload, 1) := by decide +kernel
theorem lqb_473 : decode code 473 = .ok (.ifCond .eq 7, 3) ∧ decode code (473 + 3) = .ok (.iconst 1, 1) ∧ decode code (473 + 4) = .ok (.goto 4, 3) ∧ decode code (473 + 7) = .ok (.iconst 0, 1) := by decide +kernel
theorem lqa_485 : decode code 485 = .ok (.aload_n 0, 1) ∧ decode code (485 + 1) = .ok (.iload_n 3, 1) ∧ decode code (485 + 2) = .ok (.iconst 1, 1) ∧ decode code (485 + 3) = .ok (.iadd, 1) ∧ decode code (485 + 4) = .ok (.iaload, 1) := by decide +kernel
theorem lqa_490 : decode code 490 = .ok (.aload_n 0, 1) ∧ decode code (490 + 1) = .ok (.iload_n 3, 1) ∧ decode code (490 + 2) = .ok (.iconst 2, 1) ∧ decode code (490 + 3) = .ok (.iadd, 1) ∧ decode code (490 + 4) = .ok (.iaload, 1) := by decide +kernel
theorem lqb_495 : decode code 495 = .ok (.ifCond .eq 7, 3) ∧ decode code (495 + 3) = .ok (.iconst 1, 1) ∧ decode code (495 + 4) = .ok (.goto 4, 3) ∧ decode code (495 + 7) = .ok (.iconst 0, 1) := by decide +kernel
theorem lqz_10 : decode code 462 = .ok (.aload_n 1, 1) ∧ decode code 481 = .ok (.invokevirtual 58, 3) ∧ decode code (481 + 3) = .ok (.aload_n 2, 1) ∧ decode code 503 = .ok (.invokevirtual 61, 3) ∧ decode code (503 + 3) = .ok (.if_icmp .eq 648, 3) := by decide +kernel
theorem lqk_58 : Cond.methodLink "GroundCourtLaw" 58 (gc_mN 132) ∈ gc_tb := gc_in [_] [920] (by decide +kernel) (by decide +kernel) _ List.mem_cons_self
theorem lqk_61 : Cond.methodLink "GroundCourtLaw" 61 (gc_mN 228) ∈ gc_tb := gc_in [_] [1727] (by decide +kernel) (by decide +kernel) _ List.mem_cons_self
theorem lqm_132 : gc_mL 132 = 3 ∧ gc_mK 132 = 1 ∧ gc_mP 132 = 2 ∧ gc_mC 132 = 10 := by decide +kernel
theorem lqm_228 : gc_mL 228 = 3 ∧ gc_mK 228 = 1 ∧ gc_mP 228 = 2 ∧ gc_mC 228 = 11 := by decide +kernel
theorem lqa_512 : decode code 512 = .ok (.aload_n 0, 1) ∧ decode code (512 + 1) = .ok (.iload_n 3, 1) ∧ decode code (512 + 2) = .ok (.iconst 1, 1) ∧ decode code (512 + 3) = .ok (.iadd, 1) ∧ decode code (512 + 4) = .ok (.iaload, 1) := by decide +kernel
theorem lqa_521 : decode code 521 = .ok (.aload_n 0, 1) ∧ decode code (521 + 1) = .ok (.iload_n 3, 1) ∧ decode code (521 + 2) = .ok (.iconst 1, 1) ∧ decode code (521 + 3) = .ok (.iadd, 1) ∧ decode code (521 + 4) = .ok (.iaload, 1) := by decide +kernel
theorem lqz_11 : decode code 511 = .ok (.aload_n 1, 1) ∧ decode code 517 = .ok (.invokevirtual 62, 3) ∧ decode code (517 + 3) = .ok (.aload_n 2, 1) ∧ decode code 526 = .ok (.invokevirtual 65, 3) ∧ decode code (526 + 3) = .ok (.if_icmp .eq 625, 3) := by decide +kernel
theorem lqk_62 : Cond.methodLink "GroundCourtLaw" 62 (gc_mN 133) ∈ gc_tb := gc_in [_] [924] (by decide +kernel) (by decide +kernel) _ List.mem_cons_self
theorem lqk_65 : Cond.methodLink "GroundCourtLaw" 65 (gc_mN 229) ∈ gc_tb := gc_in [_] [1731] (by decide +kernel) (by decide +kernel) _ List.mem_cons_self
theorem lqm_133 : gc_mL 133 = 2 ∧ gc_mK 133 = 1 ∧ gc_mP 133 = 1 ∧ gc_mC 133 = 10 := by decide +kernel
theorem lqm_229 : gc_mL 229 = 2 ∧ gc_mK 229 = 1 ∧ gc_mP 229 = 1 ∧ gc_mC 229 = 11 := by decide +kernel
theorem lqa_535 : decode code 535 = .ok (.aload_n 0, 1) ∧ decode code (535 + 1) = .ok (.iload_n 3, 1) ∧ decode code (535 + 2) = .ok (.iconst 1, 1) ∧ decode code (535 + 3) = .ok (.iadd, 1) ∧ decode code (535 + 4) = .ok (.iaload, 1) := by decide +kernel
theorem lqa_540 : decode code 540 = .ok (.aload_n 0, 1) ∧ decode code (540 + 1) = .ok (.iload_n 3, 1) ∧ decode code (540 + 2) = .ok (.iconst 2, 1) ∧ decode code (540 + 3) = .ok (.iadd, 1) ∧ decode code (540 + 4) = .ok (.iaload, 1) := by decide +kernel
theorem lqa_549 : decode code 549 = .ok (.aload_n 0, 1) ∧ decode code (549 + 1) = .ok (.iload_n 3, 1) ∧ decode code (549 + 2) = .ok (.iconst 1, 1) ∧ decode code (549 + 3) = .ok (.iadd, 1) ∧ decode code (549 + 4) = .ok (.iaload, 1) := by decide +kernel
theorem lqa_554 : decode code 554 = .ok (.aload_n 0, 1) ∧ decode code (554 + 1) = .ok (.iload_n 3, 1) ∧ decode code (554 + 2) = .ok (.iconst 2, 1) ∧ decode code (554 + 3) = .ok (.iadd, 1) ∧ decode code (554 + 4) = .ok (.iaload, 1) := by decide +kernel
theorem lqz_12 : decode code 534 = .ok (.aload_n 1, 1) ∧ decode code 545 = .ok (.invokevirtual 66, 3) ∧ decode code (545 + 3) = .ok (.aload_n 2, 1) ∧ decode code 559 = .ok (.invokevirtual 70, 3) ∧ decode code (559 + 3) = .ok (.if_icmp .eq 592, 3) := by decide +kernel
theorem lqk_66 : Cond.methodLink "GroundCourtLaw" 66 (gc_mN 134) ∈ gc_tb := gc_in [_] [928] (by decide +kernel) (by decide +kernel) _ List.mem_cons_self
theorem lqk_70 : Cond.methodLink "GroundCourtLaw" 70 (gc_mN 230) ∈ gc_tb := gc_in [_] [1739] (by decide +kernel) (by decide +kernel) _ List.mem_cons_self
theorem lqm_134 : gc_mL 134 = 4 ∧ gc_mK 134 = 1 ∧ gc_mP 134 = 2 ∧ gc_mC 134 = 10 := by decide +kernel
theorem lqm_230 : gc_mL 230 = 3 ∧ gc_mK 230 = 1 ∧ gc_mP 230 = 2 ∧ gc_mC 230 = 11 := by decide +kernel
theorem lqa_568 : decode code 568 = .ok (.aload_n 0, 1) ∧ decode code (568 + 1) = .ok (.iload_n 3, 1) ∧ decode code (568 + 2) = .ok (.iconst 1, 1) ∧ decode code (568 + 3) = .ok (.iadd, 1) ∧ decode code (568 + 4) = .ok (.iaload, 1) := by decide +kernel
theorem lqa_573 : decode code 573 = .ok (.aload_n 0, 1) ∧ decode code (573 + 1) = .ok (.iload_n 3, 1) ∧ decode code (573 + 2) = .ok (.iconst 2, 1) ∧ decode code (573 + 3) = .ok (.iadd, 1) ∧ decode code (573 + 4) = .ok (.iaload, 1) := by decide +kernel
theorem lqa_578 : decode code 578 = .ok (.aload_n 0, 1) ∧ decode code (578 + 1) = .ok (.iload_n 3, 1) ∧ decode code (578 + 2) = .ok (.iconst 3, 1) ∧ decode code (578 + 3) = .ok (.iadd, 1) ∧ decode code (578 + 4) = .ok (.iaload, 1) := by decide +kernel
theorem lqa_587 : decode code 587 = .ok (.aload_n 0, 1) ∧ decode code (587 + 1) = .ok (.iload_n 3, 1) ∧ decode code (587 + 2) = .ok (.iconst 1, 1) ∧ decode code (587 + 3) = .ok (.iadd, 1) ∧ decode code (587 + 4) = .ok (.iaload, 1) := by decide +kernel
theorem lqa_592 : decode code 592 = .ok (.aload_n 0, 1) ∧ decode code (592 + 1) = .ok (.iload_n 3, 1) ∧ decode code (592 + 2) = .ok (.iconst 2, 1) ∧ decode code (592 + 3) = .ok (.iadd, 1) ∧ decode code (592 + 4) = .ok (.iaload, 1) := by decide +kernel
theorem lqa_597 : decode code 597 = .ok (.aload_n 0, 1) ∧ decode code (597 + 1) = .ok (.iload_n 3, 1) ∧ decode code (597 + 2) = .ok (.iconst 3, 1) ∧ decode code (597 + 3) = .ok (.iadd, 1) ∧ decode code (597 + 4) = .ok (.iaload, 1) := by decide +kernel
theorem lqz_13 : decode code 567 = .ok (.aload_n 1, 1) ∧ decode code 583 = .ok (.invokevirtual 71, 3) ∧ decode code (583 + 3) = .ok (.aload_n 2, 1) ∧ decode code 602 = .ok (.invokevirtual 75, 3) ∧ decode code (602 + 3) = .ok (.if_icmp .eq 549, 3) := by decide +kernel
theorem lqk_71 : Cond.methodLink "GroundCourtLaw" 71 (gc_mN 135) ∈ gc_tb := gc_in [_] [932] (by decide +kernel) (by decide +kernel) _ List.mem_cons_self
theorem lqk_75 : Cond.methodLink "GroundCourtLaw" 75 (gc_mN 241) ∈ gc_tb := gc_in [_] [1759] (by decide +kernel) (by decide +kernel) _ List.mem_cons_self
theorem lqm_135 : gc_mL 135 = 4 ∧ gc_mK 135 = 1 ∧ gc_mP 135 = 3 ∧ gc_mC 135 = 10 := by decide +kernel
theorem lqm_241 : gc_mL 241 = 4 ∧ gc_mK 241 = 1 ∧ gc_mP 241 = 3 ∧ gc_mC 241 = 11 := by decide +kernel
theorem lqa_611 : decode code 611 = .ok (.aload_n 0, 1) ∧ decode code (611 + 1) = .ok (.iload_n 3, 1) ∧ decode code (611 + 2) = .ok (.iconst 1, 1) ∧ decode code (611 + 3) = .ok (.iadd, 1) ∧ decode code (611 + 4) = .ok (.iaload, 1) := by decide +kernel
theorem lqa_620 : decode code 620 = .ok (.aload_n 0, 1) ∧ decode code (620 + 1) = .ok (.iload_n 3, 1) ∧ decode code (620 + 2) = .ok (.iconst 1, 1) ∧ decode code (620 + 3) = .ok (.iadd, 1) ∧ decode code (620 + 4) = .ok (.iaload, 1) := by decide +kernel
theorem lqz_14 : decode code 610 = .ok (.aload_n 1, 1) ∧ decode code 616 = .ok (.invokevirtual 76, 3) ∧ decode code (616 + 3) = .ok (.aload_n 2, 1) ∧ decode code 625 = .ok (.invokevirtual 79, 3) ∧ decode code (625 + 3) = .ok (.if_icmp .eq 526, 3) := by decide +kernel
theorem lqk_76 : Cond.methodLink "GroundCourtLaw" 76 (gc_mN 136) ∈ gc_tb := gc_in [_] [1016] (by decide +kernel) (by decide +kernel) _ List.mem_cons_self
theorem lqk_79 : Cond.methodLink "GroundCourtLaw" 79 (gc_mN 243) ∈ gc_tb := gc_in [_] [1816] (by decide +kernel) (by decide +kernel) _ List.mem_cons_self
