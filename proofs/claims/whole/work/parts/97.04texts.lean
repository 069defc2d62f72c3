/-! The texts: names and words. -/
def sy_cod : MethodName := ⟨"java/lang/String", "coder", "()B"⟩
theorem sd_cod_0 : decode prog_16_method_152_code 0 = .ok (.getstatic 38, 3) := by decide +kernel
theorem sd_cod_3 : decode prog_16_method_152_code 3 = .ok (.ifCond .eq 10, 3) := by decide +kernel
theorem sd_cod_6 : decode prog_16_method_152_code 6 = .ok (.aload_n 0, 1) := by decide +kernel
theorem sd_cod_7 : decode prog_16_method_152_code 7 = .ok (.getfield 15, 3) := by decide +kernel
theorem sd_cod_10 : decode prog_16_method_152_code 10 = .ok (.goto 4, 3) := by decide +kernel
theorem sd_cod_14 : decode prog_16_method_152_code 14 = .ok (.ireturn, 1) := by decide +kernel
def sy_len : MethodName := ⟨"java/lang/String", "length", "()I"⟩
theorem sd_len_0 : decode prog_16_method_54_code 0 = .ok (.aload_n 0, 1) := by decide +kernel
theorem sd_len_1 : decode prog_16_method_54_code 1 = .ok (.getfield 9, 3) := by decide +kernel
theorem sd_len_4 : decode prog_16_method_54_code 4 = .ok (.arraylength, 1) := by decide +kernel
theorem sd_len_5 : decode prog_16_method_54_code 5 = .ok (.aload_n 0, 1) := by decide +kernel
theorem sd_len_6 : decode prog_16_method_54_code 6 = .ok (.invokevirtual 335, 3) := by decide +kernel
theorem sd_len_9 : decode prog_16_method_54_code 9 = .ok (.ishr, 1) := by decide +kernel
theorem sd_len_10 : decode prog_16_method_54_code 10 = .ok (.ireturn, 1) := by decide +kernel
def sy_lat : MethodName := ⟨"java/lang/String", "isLatin1", "()Z"⟩
theorem sd_lat_0 : decode prog_16_method_154_code 0 = .ok (.getstatic 38, 3) := by decide +kernel
theorem sd_lat_3 : decode prog_16_method_154_code 3 = .ok (.ifCond .eq 14, 3) := by decide +kernel
theorem sd_lat_6 : decode prog_16_method_154_code 6 = .ok (.aload_n 0, 1) := by decide +kernel
theorem sd_lat_7 : decode prog_16_method_154_code 7 = .ok (.getfield 15, 3) := by decide +kernel
theorem sd_lat_10 : decode prog_16_method_154_code 10 = .ok (.ifCond .ne 7, 3) := by decide +kernel
theorem sd_lat_13 : decode prog_16_method_154_code 13 = .ok (.iconst 1, 1) := by decide +kernel
theorem sd_lat_14 : decode prog_16_method_154_code 14 = .ok (.goto 4, 3) := by decide +kernel
theorem sd_lat_18 : decode prog_16_method_154_code 18 = .ok (.ireturn, 1) := by decide +kernel
def sy_pre : MethodName := ⟨"jdk/internal/util/Preconditions", "checkIndex", "(IILjava/util/function/BiFunction;)I"⟩
theorem sd_pre_0 : decode prog_21_method_11_code 0 = .ok (.iload_n 0, 1) := by decide +kernel
theorem sd_pre_1 : decode prog_21_method_11_code 1 = .ok (.ifCond .lt 8, 3) := by decide +kernel
theorem sd_pre_4 : decode prog_21_method_11_code 4 = .ok (.iload_n 0, 1) := by decide +kernel
theorem sd_pre_5 : decode prog_21_method_11_code 5 = .ok (.iload_n 1, 1) := by decide +kernel
theorem sd_pre_6 : decode prog_21_method_11_code 6 = .ok (.if_icmp .lt 10, 3) := by decide +kernel
theorem sd_pre_16 : decode prog_21_method_11_code 16 = .ok (.iload_n 0, 1) := by decide +kernel
theorem sd_pre_17 : decode prog_21_method_11_code 17 = .ok (.ireturn, 1) := by decide +kernel
def sy_chk : MethodName := ⟨"java/lang/String", "checkIndex", "(II)V"⟩
theorem sd_chk_0 : decode prog_16_method_155_code 0 = .ok (.iload_n 0, 1) := by decide +kernel
theorem sd_chk_1 : decode prog_16_method_155_code 1 = .ok (.iload_n 1, 1) := by decide +kernel
theorem sd_chk_2 : decode prog_16_method_155_code 2 = .ok (.getstatic 1053, 3) := by decide +kernel
theorem sd_chk_5 : decode prog_16_method_155_code 5 = .ok (.invokestatic 1059, 3) := by decide +kernel
theorem sd_chk_8 : decode prog_16_method_155_code 8 = .ok (.pop, 1) := by decide +kernel
theorem sd_chk_9 : decode prog_16_method_155_code 9 = .ok (.return_, 1) := by decide +kernel
def sy_l1c : MethodName := ⟨"java/lang/StringLatin1", "charAt", "([BI)C"⟩
theorem sd_l1c_0 : decode prog_17_method_2_code 0 = .ok (.iload_n 1, 1) := by decide +kernel
theorem sd_l1c_1 : decode prog_17_method_2_code 1 = .ok (.aload_n 0, 1) := by decide +kernel
theorem sd_l1c_2 : decode prog_17_method_2_code 2 = .ok (.arraylength, 1) := by decide +kernel
theorem sd_l1c_3 : decode prog_17_method_2_code 3 = .ok (.invokestatic 9, 3) := by decide +kernel
theorem sd_l1c_6 : decode prog_17_method_2_code 6 = .ok (.aload_n 0, 1) := by decide +kernel
theorem sd_l1c_7 : decode prog_17_method_2_code 7 = .ok (.iload_n 1, 1) := by decide +kernel
theorem sd_l1c_8 : decode prog_17_method_2_code 8 = .ok (.baload, 1) := by decide +kernel
theorem sd_l1c_9 : decode prog_17_method_2_code 9 = .ok (.sipush 255, 3) := by decide +kernel
theorem sd_l1c_12 : decode prog_17_method_2_code 12 = .ok (.iand, 1) := by decide +kernel
theorem sd_l1c_13 : decode prog_17_method_2_code 13 = .ok (.i2c, 1) := by decide +kernel
theorem sd_l1c_14 : decode prog_17_method_2_code 14 = .ok (.ireturn, 1) := by decide +kernel
def sy_cha : MethodName := ⟨"java/lang/String", "charAt", "(I)C"⟩
theorem sd_cha_0 : decode prog_16_method_56_code 0 = .ok (.aload_n 0, 1) := by decide +kernel
theorem sd_cha_1 : decode prog_16_method_56_code 1 = .ok (.invokevirtual 492, 3) := by decide +kernel
theorem sd_cha_4 : decode prog_16_method_56_code 4 = .ok (.ifCond .eq 12, 3) := by decide +kernel
theorem sd_cha_7 : decode prog_16_method_56_code 7 = .ok (.aload_n 0, 1) := by decide +kernel
theorem sd_cha_8 : decode prog_16_method_56_code 8 = .ok (.getfield 9, 3) := by decide +kernel
theorem sd_cha_11 : decode prog_16_method_56_code 11 = .ok (.iload_n 1, 1) := by decide +kernel
theorem sd_cha_12 : decode prog_16_method_56_code 12 = .ok (.invokestatic 495, 3) := by decide +kernel
theorem sd_cha_15 : decode prog_16_method_56_code 15 = .ok (.ireturn, 1) := by decide +kernel
def sy_wit : MethodName := ⟨"GroundCourt$Tokens", "withLetter", "(JI)J"⟩
theorem sd_wit_0 : decode prog_10_method_3_code 0 = .ok (.lload_n 0, 1) := by decide +kernel
theorem sd_wit_1 : decode prog_10_method_3_code 1 = .ok (.ldc2_w 86, 3) := by decide +kernel
theorem sd_wit_4 : decode prog_10_method_3_code 4 = .ok (.lmul, 1) := by decide +kernel
theorem sd_wit_5 : decode prog_10_method_3_code 5 = .ok (.iload_n 2, 1) := by decide +kernel
theorem sd_wit_6 : decode prog_10_method_3_code 6 = .ok (.bipush 97, 2) := by decide +kernel
theorem sd_wit_8 : decode prog_10_method_3_code 8 = .ok (.isub, 1) := by decide +kernel
theorem sd_wit_9 : decode prog_10_method_3_code 9 = .ok (.iconst 1, 1) := by decide +kernel
theorem sd_wit_10 : decode prog_10_method_3_code 10 = .ok (.iadd, 1) := by decide +kernel
theorem sd_wit_11 : decode prog_10_method_3_code 11 = .ok (.i2l, 1) := by decide +kernel
theorem sd_wit_12 : decode prog_10_method_3_code 12 = .ok (.ladd, 1) := by decide +kernel
theorem sd_wit_13 : decode prog_10_method_3_code 13 = .ok (.lreturn, 1) := by decide +kernel
def sy_wor : MethodName := ⟨"GroundCourt$Tokens", "wordNumber", "(Ljava/lang/String;)J"⟩
theorem sd_wor_0 : decode prog_10_method_2_code 0 = .ok (.lconst 0, 1) := by decide +kernel
theorem sd_wor_1 : decode prog_10_method_2_code 1 = .ok (.lstore_n 1, 1) := by decide +kernel
theorem sd_wor_2 : decode prog_10_method_2_code 2 = .ok (.iconst 0, 1) := by decide +kernel
theorem sd_wor_3 : decode prog_10_method_2_code 3 = .ok (.istore_n 3, 1) := by decide +kernel
theorem sd_wor_4 : decode prog_10_method_2_code 4 = .ok (.iload_n 3, 1) := by decide +kernel
theorem sd_wor_5 : decode prog_10_method_2_code 5 = .ok (.aload_n 0, 1) := by decide +kernel
theorem sd_wor_6 : decode prog_10_method_2_code 6 = .ok (.invokevirtual 72, 3) := by decide +kernel
theorem sd_wor_9 : decode prog_10_method_2_code 9 = .ok (.if_icmp .ge 19, 3) := by decide +kernel
theorem sd_wor_12 : decode prog_10_method_2_code 12 = .ok (.lload_n 1, 1) := by decide +kernel
theorem sd_wor_13 : decode prog_10_method_2_code 13 = .ok (.aload_n 0, 1) := by decide +kernel
theorem sd_wor_14 : decode prog_10_method_2_code 14 = .ok (.iload_n 3, 1) := by decide +kernel
theorem sd_wor_15 : decode prog_10_method_2_code 15 = .ok (.invokevirtual 78, 3) := by decide +kernel
theorem sd_wor_18 : decode prog_10_method_2_code 18 = .ok (.invokestatic 82, 3) := by decide +kernel
theorem sd_wor_21 : decode prog_10_method_2_code 21 = .ok (.lstore_n 1, 1) := by decide +kernel
theorem sd_wor_22 : decode prog_10_method_2_code 22 = .ok (.iinc 3 1, 3) := by decide +kernel
theorem sd_wor_25 : decode prog_10_method_2_code 25 = .ok (.goto (-21), 3) := by decide +kernel
theorem sd_wor_28 : decode prog_10_method_2_code 28 = .ok (.lload_n 1, 1) := by decide +kernel
theorem sd_wor_29 : decode prog_10_method_2_code 29 = .ok (.lreturn, 1) := by decide +kernel
theorem sw_code_cod : Cond.code sy_cod prog_16_method_152_code 1 (some .byte) ∈ gc_tb := gc_in [_] [62] (by decide +kernel) (by decide +kernel) _ List.mem_cons_self
theorem sw_inst_cod : Cond.instanceMethod sy_cod ∈ gc_tb := gc_in [_] [60] (by decide +kernel) (by decide +kernel) _ List.mem_cons_self
theorem sw_sel_cod : Cond.selects "java/lang/String" sy_cod sy_cod ∈ gc_tb := gc_in [_] [61] (by decide +kernel) (by decide +kernel) _ List.mem_cons_self
theorem sw_code_len : Cond.code sy_len prog_16_method_54_code 1 (some .int) ∈ gc_tb := gc_in [_] [58] (by decide +kernel) (by decide +kernel) _ List.mem_cons_self
theorem sw_inst_len : Cond.instanceMethod sy_len ∈ gc_tb := gc_in [_] [56] (by decide +kernel) (by decide +kernel) _ List.mem_cons_self
theorem sw_sel_len : Cond.selects "java/lang/String" sy_len sy_len ∈ gc_tb := gc_in [_] [57] (by decide +kernel) (by decide +kernel) _ List.mem_cons_self
theorem sw_code_lat : Cond.code sy_lat prog_16_method_154_code 1 (some .boolean) ∈ gc_tb := gc_in [_] [72] (by decide +kernel) (by decide +kernel) _ List.mem_cons_self
theorem sw_inst_lat : Cond.instanceMethod sy_lat ∈ gc_tb := gc_in [_] [70] (by decide +kernel) (by decide +kernel) _ List.mem_cons_self
theorem sw_sel_lat : Cond.selects "java/lang/String" sy_lat sy_lat ∈ gc_tb := gc_in [_] [71] (by decide +kernel) (by decide +kernel) _ List.mem_cons_self
theorem sw_code_pre : Cond.code sy_pre prog_21_method_11_code 3 (some .int) ∈ gc_tb := gc_in [_] [83] (by decide +kernel) (by decide +kernel) _ List.mem_cons_self
theorem sw_stat_pre : Cond.static sy_pre ∈ gc_tb := gc_in [_] [82] (by decide +kernel) (by decide +kernel) _ List.mem_cons_self
theorem sw_code_chk : Cond.code sy_chk prog_16_method_155_code 2 none ∈ gc_tb := gc_in [_] [78] (by decide +kernel) (by decide +kernel) _ List.mem_cons_self
theorem sw_stat_chk : Cond.static sy_chk ∈ gc_tb := gc_in [_] [77] (by decide +kernel) (by decide +kernel) _ List.mem_cons_self
theorem sw_code_l1c : Cond.code sy_l1c prog_17_method_2_code 2 (some .char) ∈ gc_tb := gc_in [_] [75] (by decide +kernel) (by decide +kernel) _ List.mem_cons_self
theorem sw_stat_l1c : Cond.static sy_l1c ∈ gc_tb := gc_in [_] [74] (by decide +kernel) (by decide +kernel) _ List.mem_cons_self
theorem sw_code_cha : Cond.code sy_cha prog_16_method_56_code 2 (some .char) ∈ gc_tb := gc_in [_] [68] (by decide +kernel) (by decide +kernel) _ List.mem_cons_self
theorem sw_inst_cha : Cond.instanceMethod sy_cha ∈ gc_tb := gc_in [_] [66] (by decide +kernel) (by decide +kernel) _ List.mem_cons_self
theorem sw_sel_cha : Cond.selects "java/lang/String" sy_cha sy_cha ∈ gc_tb := gc_in [_] [67] (by decide +kernel) (by decide +kernel) _ List.mem_cons_self
theorem sw_code_wit : Cond.code sy_wit prog_10_method_3_code 3 (some .long) ∈ gc_tb := gc_in [_] [105] (by decide +kernel) (by decide +kernel) _ List.mem_cons_self
theorem sw_stat_wit : Cond.static sy_wit ∈ gc_tb := gc_in [_] [104] (by decide +kernel) (by decide +kernel) _ List.mem_cons_self
theorem sw_code_wor : Cond.code sy_wor prog_10_method_2_code 4 (some .long) ∈ gc_tb := gc_in [_] [54] (by decide +kernel) (by decide +kernel) _ List.mem_cons_self
theorem sw_stat_wor : Cond.static sy_wor ∈ gc_tb := gc_in [_] [53] (by decide +kernel) (by decide +kernel) _ List.mem_cons_self
theorem sw_ini_S : Cond.initialized "java/lang/String" ∈ gc_tb := gc_in [_] [4] (by decide +kernel) (by decide +kernel) _ List.mem_cons_self
theorem sw_ini_L : Cond.initialized "java/lang/StringLatin1" ∈ gc_tb := gc_in [_] [5] (by decide +kernel) (by decide +kernel) _ List.mem_cons_self
theorem sw_ini_P : Cond.initialized "jdk/internal/util/Preconditions" ∈ gc_tb := gc_in [_] [6] (by decide +kernel) (by decide +kernel) _ List.mem_cons_self
theorem sw_ini_T : Cond.initialized "GroundCourt$Tokens" ∈ gc_tb := gc_in [_] [3] (by decide +kernel) (by decide +kernel) _ List.mem_cons_self
theorem sw_l_cod : Cond.methodLink "java/lang/String" 335 sy_cod ∈ gc_tb := gc_in [_] [59] (by decide +kernel) (by decide +kernel) _ List.mem_cons_self
theorem sw_l_lat : Cond.methodLink "java/lang/String" 492 sy_lat ∈ gc_tb := gc_in [_] [69] (by decide +kernel) (by decide +kernel) _ List.mem_cons_self
theorem sw_l_l1c : Cond.methodLink "java/lang/String" 495 sy_l1c ∈ gc_tb := gc_in [_] [73] (by decide +kernel) (by decide +kernel) _ List.mem_cons_self
theorem sw_l_chk : Cond.methodLink "java/lang/StringLatin1" 9 sy_chk ∈ gc_tb := gc_in [_] [76] (by decide +kernel) (by decide +kernel) _ List.mem_cons_self
theorem sw_l_pre : Cond.methodLink "java/lang/String" 1059 sy_pre ∈ gc_tb := gc_in [_] [81] (by decide +kernel) (by decide +kernel) _ List.mem_cons_self
theorem sw_l_len : Cond.methodLink "GroundCourt$Tokens" 72 sy_len ∈ gc_tb := gc_in [_] [55] (by decide +kernel) (by decide +kernel) _ List.mem_cons_self
theorem sw_l_cha : Cond.methodLink "GroundCourt$Tokens" 78 sy_cha ∈ gc_tb := gc_in [_] [65] (by decide +kernel) (by decide +kernel) _ List.mem_cons_self
theorem sw_l_wit : Cond.methodLink "GroundCourt$Tokens" 82 sy_wit ∈ gc_tb := gc_in [_] [103] (by decide +kernel) (by decide +kernel) _ List.mem_cons_self
theorem sw_l_wor : Cond.methodLink "GroundCourt$Tokens" 31 sy_wor ∈ gc_tb := gc_in [_] [52] (by decide +kernel) (by decide +kernel) _ List.mem_cons_self
theorem sw_f_cs : Cond.fieldLink "java/lang/String" 38 "java/lang/String" "COMPACT_STRINGS" "Z" ∈ gc_tb := gc_in [_] [63] (by decide +kernel) (by decide +kernel) _ List.mem_cons_self
theorem sw_f_sf : Cond.fieldLink "java/lang/String" 1053 "jdk/internal/util/Preconditions" "SIOOBE_FORMATTER" "Ljava/util/function/BiFunction;" ∈ gc_tb := gc_in [_] [79] (by decide +kernel) (by decide +kernel) _ List.mem_cons_self
theorem sw_f_va : Cond.fieldLink "java/lang/String" 9 "java/lang/String" "value" "[B" ∈ gc_tb := gc_in [_] [2020] (by decide +kernel) (by decide +kernel) _ List.mem_cons_self
theorem sw_f_co : Cond.fieldLink "java/lang/String" 15 "java/lang/String" "coder" "B" ∈ gc_tb := gc_in [_] [2021] (by decide +kernel) (by decide +kernel) _ List.mem_cons_self
theorem sw_c_32 : Cond.constantLong "GroundCourt$Tokens" 86 32 ∈ gc_tb := gc_in [_] [106] (by decide +kernel) (by decide +kernel) _ List.mem_cons_self
