/-! decode rows, by program -/
theorem d_F_init_0 : decode c_F_init 0 = .ok (.aload_n 0, 1) := by decide +kernel
theorem d_F_init_1 : decode c_F_init 1 = .ok (.invokespecial 3, 3) := by decide +kernel
theorem d_F_init_4 : decode c_F_init 4 = .ok (.aload_n 0, 1) := by decide +kernel
theorem d_F_init_5 : decode c_F_init 5 = .ok (.new 9, 3) := by decide +kernel
theorem d_F_init_8 : decode c_F_init 8 = .ok (.dup, 1) := by decide +kernel
theorem d_F_init_9 : decode c_F_init 9 = .ok (.invokespecial 11, 3) := by decide +kernel
theorem d_F_init_12 : decode c_F_init 12 = .ok (.putfield 12, 3) := by decide +kernel
theorem d_F_init_15 : decode c_F_init 15 = .ok (.aload_n 0, 1) := by decide +kernel
theorem d_F_init_16 : decode c_F_init 16 = .ok (.new 16, 3) := by decide +kernel
theorem d_F_init_19 : decode c_F_init 19 = .ok (.dup, 1) := by decide +kernel
theorem d_F_init_20 : decode c_F_init 20 = .ok (.aload_n 0, 1) := by decide +kernel
theorem d_F_init_21 : decode c_F_init 21 = .ok (.getfield 12, 3) := by decide +kernel
theorem d_F_init_24 : decode c_F_init 24 = .ok (.invokespecial 18, 3) := by decide +kernel
theorem d_F_init_27 : decode c_F_init 27 = .ok (.putfield 21, 3) := by decide +kernel
theorem d_F_init_30 : decode c_F_init 30 = .ok (.aload_n 0, 1) := by decide +kernel
theorem d_F_init_31 : decode c_F_init 31 = .ok (.new 25, 3) := by decide +kernel
theorem d_F_init_34 : decode c_F_init 34 = .ok (.dup, 1) := by decide +kernel
theorem d_F_init_35 : decode c_F_init 35 = .ok (.invokespecial 27, 3) := by decide +kernel
theorem d_F_init_38 : decode c_F_init 38 = .ok (.putfield 28, 3) := by decide +kernel
theorem d_F_init_41 : decode c_F_init 41 = .ok (.aload_n 0, 1) := by decide +kernel
theorem d_F_init_42 : decode c_F_init 42 = .ok (.new 32, 3) := by decide +kernel
theorem d_F_init_45 : decode c_F_init 45 = .ok (.dup, 1) := by decide +kernel
theorem d_F_init_46 : decode c_F_init 46 = .ok (.aload_n 0, 1) := by decide +kernel
theorem d_F_init_47 : decode c_F_init 47 = .ok (.getfield 12, 3) := by decide +kernel
theorem d_F_init_50 : decode c_F_init 50 = .ok (.aload_n 0, 1) := by decide +kernel
theorem d_F_init_51 : decode c_F_init 51 = .ok (.getfield 21, 3) := by decide +kernel
theorem d_F_init_54 : decode c_F_init 54 = .ok (.aload_n 0, 1) := by decide +kernel
theorem d_F_init_55 : decode c_F_init 55 = .ok (.getfield 28, 3) := by decide +kernel
theorem d_F_init_58 : decode c_F_init 58 = .ok (.invokespecial 34, 3) := by decide +kernel
theorem d_F_init_61 : decode c_F_init 61 = .ok (.putfield 37, 3) := by decide +kernel
theorem d_F_init_64 : decode c_F_init 64 = .ok (.aload_n 0, 1) := by decide +kernel
theorem d_F_init_65 : decode c_F_init 65 = .ok (.new 41, 3) := by decide +kernel
theorem d_F_init_68 : decode c_F_init 68 = .ok (.dup, 1) := by decide +kernel
theorem d_F_init_69 : decode c_F_init 69 = .ok (.aload_n 0, 1) := by decide +kernel
theorem d_F_init_70 : decode c_F_init 70 = .ok (.getfield 12, 3) := by decide +kernel
theorem d_F_init_73 : decode c_F_init 73 = .ok (.aload_n 0, 1) := by decide +kernel
theorem d_F_init_74 : decode c_F_init 74 = .ok (.getfield 21, 3) := by decide +kernel
theorem d_F_init_77 : decode c_F_init 77 = .ok (.aload_n 0, 1) := by decide +kernel
theorem d_F_init_78 : decode c_F_init 78 = .ok (.getfield 28, 3) := by decide +kernel
theorem d_F_init_81 : decode c_F_init 81 = .ok (.aload_n 0, 1) := by decide +kernel
theorem d_F_init_82 : decode c_F_init 82 = .ok (.getfield 37, 3) := by decide +kernel
theorem d_F_init_85 : decode c_F_init 85 = .ok (.invokespecial 43, 3) := by decide +kernel
theorem d_F_init_88 : decode c_F_init 88 = .ok (.putfield 46, 3) := by decide +kernel
theorem d_F_init_91 : decode c_F_init 91 = .ok (.aload_n 0, 1) := by decide +kernel
theorem d_F_init_92 : decode c_F_init 92 = .ok (.new 50, 3) := by decide +kernel
theorem d_F_init_95 : decode c_F_init 95 = .ok (.dup, 1) := by decide +kernel
theorem d_F_init_96 : decode c_F_init 96 = .ok (.aload_n 0, 1) := by decide +kernel
theorem d_F_init_97 : decode c_F_init 97 = .ok (.getfield 12, 3) := by decide +kernel
theorem d_F_init_100 : decode c_F_init 100 = .ok (.aload_n 0, 1) := by decide +kernel
theorem d_F_init_101 : decode c_F_init 101 = .ok (.getfield 28, 3) := by decide +kernel
theorem d_F_init_104 : decode c_F_init 104 = .ok (.aload_n 0, 1) := by decide +kernel
theorem d_F_init_105 : decode c_F_init 105 = .ok (.getfield 37, 3) := by decide +kernel
theorem d_F_init_108 : decode c_F_init 108 = .ok (.invokespecial 52, 3) := by decide +kernel
theorem d_F_init_111 : decode c_F_init 111 = .ok (.putfield 55, 3) := by decide +kernel
theorem d_F_init_114 : decode c_F_init 114 = .ok (.aload_n 0, 1) := by decide +kernel
theorem d_F_init_115 : decode c_F_init 115 = .ok (.new 59, 3) := by decide +kernel
theorem d_F_init_118 : decode c_F_init 118 = .ok (.dup, 1) := by decide +kernel
theorem d_F_init_119 : decode c_F_init 119 = .ok (.invokespecial 61, 3) := by decide +kernel
theorem d_F_init_122 : decode c_F_init 122 = .ok (.putfield 62, 3) := by decide +kernel
theorem d_F_init_125 : decode c_F_init 125 = .ok (.aload_n 0, 1) := by decide +kernel
theorem d_F_init_126 : decode c_F_init 126 = .ok (.new 59, 3) := by decide +kernel
theorem d_F_init_129 : decode c_F_init 129 = .ok (.dup, 1) := by decide +kernel
theorem d_F_init_130 : decode c_F_init 130 = .ok (.invokespecial 61, 3) := by decide +kernel
theorem d_F_init_133 : decode c_F_init 133 = .ok (.putfield 66, 3) := by decide +kernel
theorem d_F_init_136 : decode c_F_init 136 = .ok (.return_, 1) := by decide +kernel
theorem d_F_rule_0 : decode c_F_rule 0 = .ok (.aload_n 0, 1) := by decide +kernel
theorem d_F_rule_1 : decode c_F_rule 1 = .ok (.getfield 12, 3) := by decide +kernel
theorem d_F_rule_4 : decode c_F_rule 4 = .ok (.invokevirtual 69, 3) := by decide +kernel
theorem d_F_rule_7 : decode c_F_rule 7 = .ok (.bipush 16, 2) := by decide +kernel
theorem d_F_rule_9 : decode c_F_rule 9 = .ok (.if_icmp .ne 13, 3) := by decide +kernel
theorem d_F_rule_12 : decode c_F_rule 12 = .ok (.new 73, 3) := by decide +kernel
theorem d_F_rule_15 : decode c_F_rule 15 = .ok (.dup, 1) := by decide +kernel
theorem d_F_rule_16 : decode c_F_rule 16 = .ok (.ldc 75, 2) := by decide +kernel
theorem d_F_rule_18 : decode c_F_rule 18 = .ok (.invokespecial 77, 3) := by decide +kernel
theorem d_F_rule_21 : decode c_F_rule 21 = .ok (.athrow, 1) := by decide +kernel
theorem d_F_rule_22 : decode c_F_rule 22 = .ok (.aload_n 0, 1) := by decide +kernel
theorem d_F_rule_23 : decode c_F_rule 23 = .ok (.getfield 21, 3) := by decide +kernel
theorem d_F_rule_26 : decode c_F_rule 26 = .ok (.invokevirtual 80, 3) := by decide +kernel
theorem d_F_rule_29 : decode c_F_rule 29 = .ok (.aload_n 0, 1) := by decide +kernel
theorem d_F_rule_30 : decode c_F_rule 30 = .ok (.getfield 12, 3) := by decide +kernel
theorem d_F_rule_33 : decode c_F_rule 33 = .ok (.invokevirtual 83, 3) := by decide +kernel
theorem d_F_rule_36 : decode c_F_rule 36 = .ok (.ireturn, 1) := by decide +kernel
theorem d_F_alternative_0 : decode c_F_alternative 0 = .ok (.aload_n 0, 1) := by decide +kernel
theorem d_F_alternative_1 : decode c_F_alternative 1 = .ok (.iload_n 1, 1) := by decide +kernel
theorem d_F_alternative_2 : decode c_F_alternative 2 = .ok (.invokevirtual 86, 3) := by decide +kernel
theorem d_F_alternative_5 : decode c_F_alternative 5 = .ok (.aload_n 0, 1) := by decide +kernel
theorem d_F_alternative_6 : decode c_F_alternative 6 = .ok (.getfield 12, 3) := by decide +kernel
theorem d_F_alternative_9 : decode c_F_alternative 9 = .ok (.iload_n 1, 1) := by decide +kernel
theorem d_F_alternative_10 : decode c_F_alternative 10 = .ok (.invokevirtual 90, 3) := by decide +kernel
theorem d_F_alternative_13 : decode c_F_alternative 13 = .ok (.bipush 8, 2) := by decide +kernel
theorem d_F_alternative_15 : decode c_F_alternative 15 = .ok (.if_icmp .ne 13, 3) := by decide +kernel
theorem d_F_alternative_18 : decode c_F_alternative 18 = .ok (.new 73, 3) := by decide +kernel
theorem d_F_alternative_21 : decode c_F_alternative 21 = .ok (.dup, 1) := by decide +kernel
theorem d_F_alternative_22 : decode c_F_alternative 22 = .ok (.ldc 94, 2) := by decide +kernel
theorem d_F_alternative_24 : decode c_F_alternative 24 = .ok (.invokespecial 77, 3) := by decide +kernel
theorem d_F_alternative_27 : decode c_F_alternative 27 = .ok (.athrow, 1) := by decide +kernel
theorem d_F_alternative_28 : decode c_F_alternative 28 = .ok (.aload_n 0, 1) := by decide +kernel
theorem d_F_alternative_29 : decode c_F_alternative 29 = .ok (.getfield 21, 3) := by decide +kernel
theorem d_F_alternative_32 : decode c_F_alternative 32 = .ok (.invokevirtual 80, 3) := by decide +kernel
theorem d_F_alternative_35 : decode c_F_alternative 35 = .ok (.aload_n 0, 1) := by decide +kernel
theorem d_F_alternative_36 : decode c_F_alternative 36 = .ok (.getfield 12, 3) := by decide +kernel
theorem d_F_alternative_39 : decode c_F_alternative 39 = .ok (.iload_n 1, 1) := by decide +kernel
theorem d_F_alternative_40 : decode c_F_alternative 40 = .ok (.invokevirtual 96, 3) := by decide +kernel
theorem d_F_alternative_43 : decode c_F_alternative 43 = .ok (.ireturn, 1) := by decide +kernel
theorem d_F_symbol_0 : decode c_F_symbol 0 = .ok (.aload_n 0, 1) := by decide +kernel
theorem d_F_symbol_1 : decode c_F_symbol 1 = .ok (.iload_n 1, 1) := by decide +kernel
theorem d_F_symbol_2 : decode c_F_symbol 2 = .ok (.invokevirtual 86, 3) := by decide +kernel
theorem d_F_symbol_5 : decode c_F_symbol 5 = .ok (.iload_n 2, 1) := by decide +kernel
theorem d_F_symbol_6 : decode c_F_symbol 6 = .ok (.bipush (-16), 2) := by decide +kernel
theorem d_F_symbol_8 : decode c_F_symbol 8 = .ok (.if_icmp .lt 9, 3) := by decide +kernel
theorem d_F_symbol_11 : decode c_F_symbol 11 = .ok (.iload_n 2, 1) := by decide +kernel
theorem d_F_symbol_12 : decode c_F_symbol 12 = .ok (.bipush 32, 2) := by decide +kernel
theorem d_F_symbol_14 : decode c_F_symbol 14 = .ok (.if_icmp .lt 13, 3) := by decide +kernel
theorem d_F_symbol_17 : decode c_F_symbol 17 = .ok (.new 99, 3) := by decide +kernel
theorem d_F_symbol_20 : decode c_F_symbol 20 = .ok (.dup, 1) := by decide +kernel
theorem d_F_symbol_21 : decode c_F_symbol 21 = .ok (.ldc 101, 2) := by decide +kernel
theorem d_F_symbol_23 : decode c_F_symbol 23 = .ok (.invokespecial 103, 3) := by decide +kernel
theorem d_F_symbol_26 : decode c_F_symbol 26 = .ok (.athrow, 1) := by decide +kernel
theorem d_F_symbol_27 : decode c_F_symbol 27 = .ok (.aload_n 0, 1) := by decide +kernel
theorem d_F_symbol_28 : decode c_F_symbol 28 = .ok (.getfield 12, 3) := by decide +kernel
theorem d_F_symbol_31 : decode c_F_symbol 31 = .ok (.iload_n 1, 1) := by decide +kernel
theorem d_F_symbol_32 : decode c_F_symbol 32 = .ok (.invokevirtual 90, 3) := by decide +kernel
theorem d_F_symbol_35 : decode c_F_symbol 35 = .ok (.ifCond .ne 13, 3) := by decide +kernel
theorem d_F_symbol_38 : decode c_F_symbol 38 = .ok (.new 104, 3) := by decide +kernel
theorem d_F_symbol_41 : decode c_F_symbol 41 = .ok (.dup, 1) := by decide +kernel
theorem d_F_symbol_42 : decode c_F_symbol 42 = .ok (.ldc 106, 2) := by decide +kernel
theorem d_F_symbol_44 : decode c_F_symbol 44 = .ok (.invokespecial 108, 3) := by decide +kernel
theorem d_F_symbol_47 : decode c_F_symbol 47 = .ok (.athrow, 1) := by decide +kernel
theorem d_F_symbol_48 : decode c_F_symbol 48 = .ok (.aload_n 0, 1) := by decide +kernel
theorem d_F_symbol_49 : decode c_F_symbol 49 = .ok (.getfield 12, 3) := by decide +kernel
theorem d_F_symbol_52 : decode c_F_symbol 52 = .ok (.aload_n 0, 1) := by decide +kernel
theorem d_F_symbol_53 : decode c_F_symbol 53 = .ok (.getfield 12, 3) := by decide +kernel
theorem d_F_symbol_56 : decode c_F_symbol 56 = .ok (.iload_n 1, 1) := by decide +kernel
theorem d_F_symbol_57 : decode c_F_symbol 57 = .ok (.invokevirtual 109, 3) := by decide +kernel
theorem d_F_symbol_60 : decode c_F_symbol 60 = .ok (.invokevirtual 112, 3) := by decide +kernel
theorem d_F_symbol_63 : decode c_F_symbol 63 = .ok (.bipush 8, 2) := by decide +kernel
theorem d_F_symbol_65 : decode c_F_symbol 65 = .ok (.if_icmp .ne 13, 3) := by decide +kernel
theorem d_F_symbol_68 : decode c_F_symbol 68 = .ok (.new 73, 3) := by decide +kernel
theorem d_F_symbol_71 : decode c_F_symbol 71 = .ok (.dup, 1) := by decide +kernel
theorem d_F_symbol_72 : decode c_F_symbol 72 = .ok (.ldc 115, 2) := by decide +kernel
theorem d_F_symbol_74 : decode c_F_symbol 74 = .ok (.invokespecial 77, 3) := by decide +kernel
theorem d_F_symbol_77 : decode c_F_symbol 77 = .ok (.athrow, 1) := by decide +kernel
theorem d_F_symbol_78 : decode c_F_symbol 78 = .ok (.aload_n 0, 1) := by decide +kernel
theorem d_F_symbol_79 : decode c_F_symbol 79 = .ok (.getfield 21, 3) := by decide +kernel
theorem d_F_symbol_82 : decode c_F_symbol 82 = .ok (.invokevirtual 80, 3) := by decide +kernel
theorem d_F_symbol_85 : decode c_F_symbol 85 = .ok (.aload_n 0, 1) := by decide +kernel
theorem d_F_symbol_86 : decode c_F_symbol 86 = .ok (.getfield 12, 3) := by decide +kernel
theorem d_F_symbol_89 : decode c_F_symbol 89 = .ok (.iload_n 1, 1) := by decide +kernel
theorem d_F_symbol_90 : decode c_F_symbol 90 = .ok (.iload_n 2, 1) := by decide +kernel
theorem d_F_symbol_91 : decode c_F_symbol 91 = .ok (.invokevirtual 117, 3) := by decide +kernel
theorem d_F_symbol_94 : decode c_F_symbol 94 = .ok (.ireturn, 1) := by decide +kernel
theorem d_F_clear_0 : decode c_F_clear 0 = .ok (.aload_n 0, 1) := by decide +kernel
theorem d_F_clear_1 : decode c_F_clear 1 = .ok (.getfield 21, 3) := by decide +kernel
theorem d_F_clear_4 : decode c_F_clear 4 = .ok (.invokevirtual 80, 3) := by decide +kernel
theorem d_F_clear_7 : decode c_F_clear 7 = .ok (.aload_n 0, 1) := by decide +kernel
theorem d_F_clear_8 : decode c_F_clear 8 = .ok (.getfield 12, 3) := by decide +kernel
theorem d_F_clear_11 : decode c_F_clear 11 = .ok (.invokevirtual 121, 3) := by decide +kernel
theorem d_F_clear_14 : decode c_F_clear 14 = .ok (.ireturn, 1) := by decide +kernel
theorem d_F_fault_0 : decode c_F_fault 0 = .ok (.aload_n 0, 1) := by decide +kernel
theorem d_F_fault_1 : decode c_F_fault 1 = .ok (.getfield 21, 3) := by decide +kernel
theorem d_F_fault_4 : decode c_F_fault 4 = .ok (.invokevirtual 124, 3) := by decide +kernel
theorem d_F_fault_7 : decode c_F_fault 7 = .ok (.aload_n 0, 1) := by decide +kernel
theorem d_F_fault_8 : decode c_F_fault 8 = .ok (.getfield 21, 3) := by decide +kernel
theorem d_F_fault_11 : decode c_F_fault 11 = .ok (.invokevirtual 127, 3) := by decide +kernel
theorem d_F_fault_14 : decode c_F_fault 14 = .ok (.ireturn, 1) := by decide +kernel
theorem d_F_faulty_0 : decode c_F_faulty 0 = .ok (.aload_n 0, 1) := by decide +kernel
theorem d_F_faulty_1 : decode c_F_faulty 1 = .ok (.getfield 21, 3) := by decide +kernel
theorem d_F_faulty_4 : decode c_F_faulty 4 = .ok (.invokevirtual 124, 3) := by decide +kernel
theorem d_F_faulty_7 : decode c_F_faulty 7 = .ok (.aload_n 0, 1) := by decide +kernel
theorem d_F_faulty_8 : decode c_F_faulty 8 = .ok (.getfield 21, 3) := by decide +kernel
theorem d_F_faulty_11 : decode c_F_faulty 11 = .ok (.invokevirtual 130, 3) := by decide +kernel
theorem d_F_faulty_14 : decode c_F_faulty 14 = .ok (.ireturn, 1) := by decide +kernel
theorem d_F_token_0 : decode c_F_token 0 = .ok (.iload_n 1, 1) := by decide +kernel
theorem d_F_token_1 : decode c_F_token 1 = .ok (.ifCond .lt 9, 3) := by decide +kernel
theorem d_F_token_4 : decode c_F_token 4 = .ok (.iload_n 1, 1) := by decide +kernel
theorem d_F_token_5 : decode c_F_token 5 = .ok (.bipush 32, 2) := by decide +kernel
theorem d_F_token_7 : decode c_F_token 7 = .ok (.if_icmp .lt 13, 3) := by decide +kernel
theorem d_F_token_10 : decode c_F_token 10 = .ok (.new 99, 3) := by decide +kernel
theorem d_F_token_13 : decode c_F_token 13 = .ok (.dup, 1) := by decide +kernel
theorem d_F_token_14 : decode c_F_token 14 = .ok (.ldc 133, 2) := by decide +kernel
theorem d_F_token_16 : decode c_F_token 16 = .ok (.invokespecial 103, 3) := by decide +kernel
theorem d_F_token_19 : decode c_F_token 19 = .ok (.athrow, 1) := by decide +kernel
theorem d_F_token_20 : decode c_F_token 20 = .ok (.aload_n 0, 1) := by decide +kernel
theorem d_F_token_21 : decode c_F_token 21 = .ok (.getfield 28, 3) := by decide +kernel
theorem d_F_token_24 : decode c_F_token 24 = .ok (.invokevirtual 135, 3) := by decide +kernel
theorem d_F_token_27 : decode c_F_token 27 = .ok (.bipush 60, 2) := by decide +kernel
theorem d_F_token_29 : decode c_F_token 29 = .ok (.if_icmp .ne 13, 3) := by decide +kernel
theorem d_F_token_32 : decode c_F_token 32 = .ok (.new 73, 3) := by decide +kernel
theorem d_F_token_35 : decode c_F_token 35 = .ok (.dup, 1) := by decide +kernel
theorem d_F_token_36 : decode c_F_token 36 = .ok (.ldc 138, 2) := by decide +kernel
theorem d_F_token_38 : decode c_F_token 38 = .ok (.invokespecial 77, 3) := by decide +kernel
theorem d_F_token_41 : decode c_F_token 41 = .ok (.athrow, 1) := by decide +kernel
theorem d_F_token_42 : decode c_F_token 42 = .ok (.aload_n 0, 1) := by decide +kernel
theorem d_F_token_43 : decode c_F_token 43 = .ok (.getfield 28, 3) := by decide +kernel
theorem d_F_token_46 : decode c_F_token 46 = .ok (.iload_n 1, 1) := by decide +kernel
theorem d_F_token_47 : decode c_F_token 47 = .ok (.invokevirtual 140, 3) := by decide +kernel
theorem d_F_token_50 : decode c_F_token 50 = .ok (.ireturn, 1) := by decide +kernel
theorem d_F_keep_0 : decode c_F_keep 0 = .ok (.iload_n 1, 1) := by decide +kernel
theorem d_F_keep_1 : decode c_F_keep 1 = .ok (.ifCond .lt 14, 3) := by decide +kernel
theorem d_F_keep_4 : decode c_F_keep 4 = .ok (.iload_n 1, 1) := by decide +kernel
theorem d_F_keep_5 : decode c_F_keep 5 = .ok (.aload_n 0, 1) := by decide +kernel
theorem d_F_keep_6 : decode c_F_keep 6 = .ok (.getfield 28, 3) := by decide +kernel
theorem d_F_keep_9 : decode c_F_keep 9 = .ok (.invokevirtual 135, 3) := by decide +kernel
theorem d_F_keep_12 : decode c_F_keep 12 = .ok (.if_icmp .le 13, 3) := by decide +kernel
theorem d_F_keep_15 : decode c_F_keep 15 = .ok (.new 99, 3) := by decide +kernel
theorem d_F_keep_18 : decode c_F_keep 18 = .ok (.dup, 1) := by decide +kernel
theorem d_F_keep_19 : decode c_F_keep 19 = .ok (.ldc 143, 2) := by decide +kernel
theorem d_F_keep_21 : decode c_F_keep 21 = .ok (.invokespecial 103, 3) := by decide +kernel
theorem d_F_keep_24 : decode c_F_keep 24 = .ok (.athrow, 1) := by decide +kernel
theorem d_F_keep_25 : decode c_F_keep 25 = .ok (.aload_n 0, 1) := by decide +kernel
theorem d_F_keep_26 : decode c_F_keep 26 = .ok (.getfield 28, 3) := by decide +kernel
theorem d_F_keep_29 : decode c_F_keep 29 = .ok (.iload_n 1, 1) := by decide +kernel
theorem d_F_keep_30 : decode c_F_keep 30 = .ok (.invokevirtual 145, 3) := by decide +kernel
theorem d_F_keep_33 : decode c_F_keep 33 = .ok (.return_, 1) := by decide +kernel
theorem d_F_parse_0 : decode c_F_parse 0 = .ok (.aload_n 0, 1) := by decide +kernel
theorem d_F_parse_1 : decode c_F_parse 1 = .ok (.invokevirtual 148, 3) := by decide +kernel
theorem d_F_parse_4 : decode c_F_parse 4 = .ok (.aload_n 0, 1) := by decide +kernel
theorem d_F_parse_5 : decode c_F_parse 5 = .ok (.getfield 37, 3) := by decide +kernel
theorem d_F_parse_8 : decode c_F_parse 8 = .ok (.aload_n 0, 1) := by decide +kernel
theorem d_F_parse_9 : decode c_F_parse 9 = .ok (.getfield 28, 3) := by decide +kernel
theorem d_F_parse_12 : decode c_F_parse 12 = .ok (.invokevirtual 135, 3) := by decide +kernel
theorem d_F_parse_15 : decode c_F_parse 15 = .ok (.invokevirtual 151, 3) := by decide +kernel
theorem d_F_parse_18 : decode c_F_parse 18 = .ok (.aload_n 0, 1) := by decide +kernel
theorem d_F_parse_19 : decode c_F_parse 19 = .ok (.getfield 37, 3) := by decide +kernel
theorem d_F_parse_22 : decode c_F_parse 22 = .ok (.invokevirtual 154, 3) := by decide +kernel
theorem d_F_parse_25 : decode c_F_parse 25 = .ok (.ifCond .ne 12, 3) := by decide +kernel
theorem d_F_parse_28 : decode c_F_parse 28 = .ok (.aload_n 0, 1) := by decide +kernel
theorem d_F_parse_29 : decode c_F_parse 29 = .ok (.getfield 62, 3) := by decide +kernel
theorem d_F_parse_32 : decode c_F_parse 32 = .ok (.invokevirtual 158, 3) := by decide +kernel
theorem d_F_parse_35 : decode c_F_parse 35 = .ok (.iconst 0, 1) := by decide +kernel
theorem d_F_parse_36 : decode c_F_parse 36 = .ok (.ireturn, 1) := by decide +kernel
theorem d_F_parse_37 : decode c_F_parse 37 = .ok (.aload_n 0, 1) := by decide +kernel
theorem d_F_parse_38 : decode c_F_parse 38 = .ok (.getfield 55, 3) := by decide +kernel
theorem d_F_parse_41 : decode c_F_parse 41 = .ok (.aload_n 0, 1) := by decide +kernel
theorem d_F_parse_42 : decode c_F_parse 42 = .ok (.getfield 66, 3) := by decide +kernel
theorem d_F_parse_45 : decode c_F_parse 45 = .ok (.invokevirtual 161, 3) := by decide +kernel
theorem d_F_parse_48 : decode c_F_parse 48 = .ok (.ifCond .ne 13, 3) := by decide +kernel
theorem d_F_parse_51 : decode c_F_parse 51 = .ok (.new 73, 3) := by decide +kernel
theorem d_F_parse_54 : decode c_F_parse 54 = .ok (.dup, 1) := by decide +kernel
theorem d_F_parse_55 : decode c_F_parse 55 = .ok (.ldc 165, 2) := by decide +kernel
theorem d_F_parse_57 : decode c_F_parse 57 = .ok (.invokespecial 77, 3) := by decide +kernel
theorem d_F_parse_60 : decode c_F_parse 60 = .ok (.athrow, 1) := by decide +kernel
theorem d_F_parse_61 : decode c_F_parse 61 = .ok (.aload_n 0, 1) := by decide +kernel
theorem d_F_parse_62 : decode c_F_parse 62 = .ok (.getfield 62, 3) := by decide +kernel
theorem d_F_parse_65 : decode c_F_parse 65 = .ok (.astore_n 1, 1) := by decide +kernel
theorem d_F_parse_66 : decode c_F_parse 66 = .ok (.aload_n 0, 1) := by decide +kernel
theorem d_F_parse_67 : decode c_F_parse 67 = .ok (.aload_n 0, 1) := by decide +kernel
theorem d_F_parse_68 : decode c_F_parse 68 = .ok (.getfield 66, 3) := by decide +kernel
theorem d_F_parse_71 : decode c_F_parse 71 = .ok (.putfield 62, 3) := by decide +kernel
theorem d_F_parse_74 : decode c_F_parse 74 = .ok (.aload_n 0, 1) := by decide +kernel
theorem d_F_parse_75 : decode c_F_parse 75 = .ok (.aload_n 1, 1) := by decide +kernel
theorem d_F_parse_76 : decode c_F_parse 76 = .ok (.putfield 66, 3) := by decide +kernel
theorem d_F_parse_79 : decode c_F_parse 79 = .ok (.aload_n 0, 1) := by decide +kernel
theorem d_F_parse_80 : decode c_F_parse 80 = .ok (.getfield 46, 3) := by decide +kernel
theorem d_F_parse_83 : decode c_F_parse 83 = .ok (.invokevirtual 167, 3) := by decide +kernel
theorem d_F_parse_86 : decode c_F_parse 86 = .ok (.ireturn, 1) := by decide +kernel
theorem d_F_nodes_0 : decode c_F_nodes 0 = .ok (.aload_n 0, 1) := by decide +kernel
theorem d_F_nodes_1 : decode c_F_nodes 1 = .ok (.getfield 62, 3) := by decide +kernel
theorem d_F_nodes_4 : decode c_F_nodes 4 = .ok (.invokevirtual 170, 3) := by decide +kernel
theorem d_F_nodes_7 : decode c_F_nodes 7 = .ok (.ireturn, 1) := by decide +kernel
theorem d_F_node_0 : decode c_F_node 0 = .ok (.iload_n 1, 1) := by decide +kernel
theorem d_F_node_1 : decode c_F_node 1 = .ok (.ifCond .lt 14, 3) := by decide +kernel
theorem d_F_node_4 : decode c_F_node 4 = .ok (.iload_n 1, 1) := by decide +kernel
theorem d_F_node_5 : decode c_F_node 5 = .ok (.aload_n 0, 1) := by decide +kernel
theorem d_F_node_6 : decode c_F_node 6 = .ok (.getfield 62, 3) := by decide +kernel
theorem d_F_node_9 : decode c_F_node 9 = .ok (.invokevirtual 170, 3) := by decide +kernel
theorem d_F_node_12 : decode c_F_node 12 = .ok (.if_icmp .lt 13, 3) := by decide +kernel
theorem d_F_node_15 : decode c_F_node 15 = .ok (.new 171, 3) := by decide +kernel
theorem d_F_node_18 : decode c_F_node 18 = .ok (.dup, 1) := by decide +kernel
theorem d_F_node_19 : decode c_F_node 19 = .ok (.ldc 173, 2) := by decide +kernel
theorem d_F_node_21 : decode c_F_node 21 = .ok (.invokespecial 175, 3) := by decide +kernel
theorem d_F_node_24 : decode c_F_node 24 = .ok (.athrow, 1) := by decide +kernel
theorem d_F_node_25 : decode c_F_node 25 = .ok (.iload_n 2, 1) := by decide +kernel
theorem d_F_node_26 : decode c_F_node 26 = .ok (.ifCond .lt 9, 3) := by decide +kernel
theorem d_F_node_29 : decode c_F_node 29 = .ok (.iload_n 2, 1) := by decide +kernel
theorem d_F_node_30 : decode c_F_node 30 = .ok (.bipush 7, 2) := by decide +kernel
theorem d_F_node_32 : decode c_F_node 32 = .ok (.if_icmp .lt 13, 3) := by decide +kernel
theorem d_F_node_35 : decode c_F_node 35 = .ok (.new 99, 3) := by decide +kernel
theorem d_F_node_38 : decode c_F_node 38 = .ok (.dup, 1) := by decide +kernel
theorem d_F_node_39 : decode c_F_node 39 = .ok (.ldc 176, 2) := by decide +kernel
theorem d_F_node_41 : decode c_F_node 41 = .ok (.invokespecial 103, 3) := by decide +kernel
theorem d_F_node_44 : decode c_F_node 44 = .ok (.athrow, 1) := by decide +kernel
theorem d_F_node_45 : decode c_F_node 45 = .ok (.aload_n 0, 1) := by decide +kernel
theorem d_F_node_46 : decode c_F_node 46 = .ok (.getfield 62, 3) := by decide +kernel
theorem d_F_node_49 : decode c_F_node 49 = .ok (.iload_n 1, 1) := by decide +kernel
theorem d_F_node_50 : decode c_F_node 50 = .ok (.iload_n 2, 1) := by decide +kernel
theorem d_F_node_51 : decode c_F_node 51 = .ok (.invokevirtual 178, 3) := by decide +kernel
theorem d_F_node_54 : decode c_F_node 54 = .ok (.ireturn, 1) := by decide +kernel
theorem d_F_reach_0 : decode c_F_reach 0 = .ok (.aload_n 0, 1) := by decide +kernel
theorem d_F_reach_1 : decode c_F_reach 1 = .ok (.invokevirtual 148, 3) := by decide +kernel
theorem d_F_reach_4 : decode c_F_reach 4 = .ok (.aload_n 0, 1) := by decide +kernel
theorem d_F_reach_5 : decode c_F_reach 5 = .ok (.getfield 37, 3) := by decide +kernel
theorem d_F_reach_8 : decode c_F_reach 8 = .ok (.aload_n 0, 1) := by decide +kernel
theorem d_F_reach_9 : decode c_F_reach 9 = .ok (.getfield 28, 3) := by decide +kernel
theorem d_F_reach_12 : decode c_F_reach 12 = .ok (.invokevirtual 135, 3) := by decide +kernel
theorem d_F_reach_15 : decode c_F_reach 15 = .ok (.invokevirtual 151, 3) := by decide +kernel
theorem d_F_reach_18 : decode c_F_reach 18 = .ok (.aload_n 0, 1) := by decide +kernel
theorem d_F_reach_19 : decode c_F_reach 19 = .ok (.getfield 37, 3) := by decide +kernel
theorem d_F_reach_22 : decode c_F_reach 22 = .ok (.invokevirtual 154, 3) := by decide +kernel
theorem d_F_reach_25 : decode c_F_reach 25 = .ok (.ifCond .eq 15, 3) := by decide +kernel
theorem d_F_reach_28 : decode c_F_reach 28 = .ok (.aload_n 0, 1) := by decide +kernel
theorem d_F_reach_29 : decode c_F_reach 29 = .ok (.getfield 28, 3) := by decide +kernel
theorem d_F_reach_32 : decode c_F_reach 32 = .ok (.invokevirtual 135, 3) := by decide +kernel
theorem d_F_reach_35 : decode c_F_reach 35 = .ok (.iconst 1, 1) := by decide +kernel
theorem d_F_reach_36 : decode c_F_reach 36 = .ok (.iadd, 1) := by decide +kernel
theorem d_F_reach_37 : decode c_F_reach 37 = .ok (.goto 10, 3) := by decide +kernel
theorem d_F_reach_40 : decode c_F_reach 40 = .ok (.aload_n 0, 1) := by decide +kernel
theorem d_F_reach_41 : decode c_F_reach 41 = .ok (.getfield 37, 3) := by decide +kernel
theorem d_F_reach_44 : decode c_F_reach 44 = .ok (.invokevirtual 181, 3) := by decide +kernel
theorem d_F_reach_47 : decode c_F_reach 47 = .ok (.ireturn, 1) := by decide +kernel
theorem d_F_expected_0 : decode c_F_expected 0 = .ok (.aload_n 0, 1) := by decide +kernel
theorem d_F_expected_1 : decode c_F_expected 1 = .ok (.invokevirtual 148, 3) := by decide +kernel
theorem d_F_expected_4 : decode c_F_expected 4 = .ok (.iload_n 1, 1) := by decide +kernel
theorem d_F_expected_5 : decode c_F_expected 5 = .ok (.ifCond .lt 14, 3) := by decide +kernel
theorem d_F_expected_8 : decode c_F_expected 8 = .ok (.iload_n 1, 1) := by decide +kernel
theorem d_F_expected_9 : decode c_F_expected 9 = .ok (.aload_n 0, 1) := by decide +kernel
theorem d_F_expected_10 : decode c_F_expected 10 = .ok (.getfield 28, 3) := by decide +kernel
theorem d_F_expected_13 : decode c_F_expected 13 = .ok (.invokevirtual 135, 3) := by decide +kernel
theorem d_F_expected_16 : decode c_F_expected 16 = .ok (.if_icmp .le 13, 3) := by decide +kernel
theorem d_F_expected_19 : decode c_F_expected 19 = .ok (.new 99, 3) := by decide +kernel
theorem d_F_expected_22 : decode c_F_expected 22 = .ok (.dup, 1) := by decide +kernel
theorem d_F_expected_23 : decode c_F_expected 23 = .ok (.ldc 184, 2) := by decide +kernel
theorem d_F_expected_25 : decode c_F_expected 25 = .ok (.invokespecial 103, 3) := by decide +kernel
theorem d_F_expected_28 : decode c_F_expected 28 = .ok (.athrow, 1) := by decide +kernel
theorem d_F_expected_29 : decode c_F_expected 29 = .ok (.aload_n 0, 1) := by decide +kernel
theorem d_F_expected_30 : decode c_F_expected 30 = .ok (.getfield 37, 3) := by decide +kernel
theorem d_F_expected_33 : decode c_F_expected 33 = .ok (.iload_n 1, 1) := by decide +kernel
theorem d_F_expected_34 : decode c_F_expected 34 = .ok (.invokevirtual 151, 3) := by decide +kernel
theorem d_F_expected_37 : decode c_F_expected 37 = .ok (.aload_n 0, 1) := by decide +kernel
theorem d_F_expected_38 : decode c_F_expected 38 = .ok (.getfield 37, 3) := by decide +kernel
theorem d_F_expected_41 : decode c_F_expected 41 = .ok (.invokevirtual 186, 3) := by decide +kernel
theorem d_F_expected_44 : decode c_F_expected 44 = .ok (.aload_n 0, 1) := by decide +kernel
theorem d_F_expected_45 : decode c_F_expected 45 = .ok (.getfield 37, 3) := by decide +kernel
theorem d_F_expected_48 : decode c_F_expected 48 = .ok (.invokevirtual 154, 3) := by decide +kernel
theorem d_F_expected_51 : decode c_F_expected 51 = .ok (.ifCond .eq 9, 3) := by decide +kernel
theorem d_F_expected_54 : decode c_F_expected 54 = .ok (.ldc2_w 190, 3) := by decide +kernel
theorem d_F_expected_57 : decode c_F_expected 57 = .ok (.goto 4, 3) := by decide +kernel
theorem d_F_expected_60 : decode c_F_expected 60 = .ok (.lconst 0, 1) := by decide +kernel
theorem d_F_expected_61 : decode c_F_expected 61 = .ok (.lor, 1) := by decide +kernel
theorem d_F_expected_62 : decode c_F_expected 62 = .ok (.lreturn, 1) := by decide +kernel
theorem d_F_isNothing_0 : decode c_F_isNothing 0 = .ok (.aload_n 0, 1) := by decide +kernel
theorem d_F_isNothing_1 : decode c_F_isNothing 1 = .ok (.invokevirtual 148, 3) := by decide +kernel
theorem d_F_isNothing_4 : decode c_F_isNothing 4 = .ok (.aload_n 0, 1) := by decide +kernel
theorem d_F_isNothing_5 : decode c_F_isNothing 5 = .ok (.iload_n 1, 1) := by decide +kernel
theorem d_F_isNothing_6 : decode c_F_isNothing 6 = .ok (.invokevirtual 86, 3) := by decide +kernel
theorem d_F_isNothing_9 : decode c_F_isNothing 9 = .ok (.aload_n 0, 1) := by decide +kernel
theorem d_F_isNothing_10 : decode c_F_isNothing 10 = .ok (.getfield 21, 3) := by decide +kernel
theorem d_F_isNothing_13 : decode c_F_isNothing 13 = .ok (.iload_n 1, 1) := by decide +kernel
theorem d_F_isNothing_14 : decode c_F_isNothing 14 = .ok (.invokevirtual 192, 3) := by decide +kernel
theorem d_F_isNothing_17 : decode c_F_isNothing 17 = .ok (.ireturn, 1) := by decide +kernel
theorem d_F_first_0 : decode c_F_first 0 = .ok (.aload_n 0, 1) := by decide +kernel
theorem d_F_first_1 : decode c_F_first 1 = .ok (.invokevirtual 148, 3) := by decide +kernel
theorem d_F_first_4 : decode c_F_first 4 = .ok (.aload_n 0, 1) := by decide +kernel
theorem d_F_first_5 : decode c_F_first 5 = .ok (.iload_n 1, 1) := by decide +kernel
theorem d_F_first_6 : decode c_F_first 6 = .ok (.invokevirtual 86, 3) := by decide +kernel
theorem d_F_first_9 : decode c_F_first 9 = .ok (.aload_n 0, 1) := by decide +kernel
theorem d_F_first_10 : decode c_F_first 10 = .ok (.getfield 21, 3) := by decide +kernel
theorem d_F_first_13 : decode c_F_first 13 = .ok (.iload_n 1, 1) := by decide +kernel
theorem d_F_first_14 : decode c_F_first 14 = .ok (.invokevirtual 196, 3) := by decide +kernel
theorem d_F_first_17 : decode c_F_first 17 = .ok (.lreturn, 1) := by decide +kernel
theorem d_F_following_0 : decode c_F_following 0 = .ok (.aload_n 0, 1) := by decide +kernel
theorem d_F_following_1 : decode c_F_following 1 = .ok (.invokevirtual 148, 3) := by decide +kernel
theorem d_F_following_4 : decode c_F_following 4 = .ok (.aload_n 0, 1) := by decide +kernel
theorem d_F_following_5 : decode c_F_following 5 = .ok (.iload_n 1, 1) := by decide +kernel
theorem d_F_following_6 : decode c_F_following 6 = .ok (.invokevirtual 86, 3) := by decide +kernel
theorem d_F_following_9 : decode c_F_following 9 = .ok (.aload_n 0, 1) := by decide +kernel
theorem d_F_following_10 : decode c_F_following 10 = .ok (.getfield 21, 3) := by decide +kernel
theorem d_F_following_13 : decode c_F_following 13 = .ok (.iload_n 1, 1) := by decide +kernel
theorem d_F_following_14 : decode c_F_following 14 = .ok (.invokevirtual 200, 3) := by decide +kernel
theorem d_F_following_17 : decode c_F_following 17 = .ok (.lreturn, 1) := by decide +kernel
theorem d_F_lets_0 : decode c_F_lets 0 = .ok (.aload_n 0, 1) := by decide +kernel
theorem d_F_lets_1 : decode c_F_lets 1 = .ok (.invokevirtual 148, 3) := by decide +kernel
theorem d_F_lets_4 : decode c_F_lets 4 = .ok (.aload_n 0, 1) := by decide +kernel
theorem d_F_lets_5 : decode c_F_lets 5 = .ok (.iload_n 1, 1) := by decide +kernel
theorem d_F_lets_6 : decode c_F_lets 6 = .ok (.invokevirtual 86, 3) := by decide +kernel
theorem d_F_lets_9 : decode c_F_lets 9 = .ok (.iload_n 2, 1) := by decide +kernel
theorem d_F_lets_10 : decode c_F_lets 10 = .ok (.ifCond .lt 9, 3) := by decide +kernel
theorem d_F_lets_13 : decode c_F_lets 13 = .ok (.iload_n 2, 1) := by decide +kernel
theorem d_F_lets_14 : decode c_F_lets 14 = .ok (.bipush 32, 2) := by decide +kernel
theorem d_F_lets_16 : decode c_F_lets 16 = .ok (.if_icmp .le 13, 3) := by decide +kernel
theorem d_F_lets_19 : decode c_F_lets 19 = .ok (.new 99, 3) := by decide +kernel
theorem d_F_lets_22 : decode c_F_lets 22 = .ok (.dup, 1) := by decide +kernel
theorem d_F_lets_23 : decode c_F_lets 23 = .ok (.ldc 133, 2) := by decide +kernel
theorem d_F_lets_25 : decode c_F_lets 25 = .ok (.invokespecial 103, 3) := by decide +kernel
theorem d_F_lets_28 : decode c_F_lets 28 = .ok (.athrow, 1) := by decide +kernel
theorem d_F_lets_29 : decode c_F_lets 29 = .ok (.aload_n 0, 1) := by decide +kernel
theorem d_F_lets_30 : decode c_F_lets 30 = .ok (.getfield 21, 3) := by decide +kernel
theorem d_F_lets_33 : decode c_F_lets 33 = .ok (.iload_n 1, 1) := by decide +kernel
theorem d_F_lets_34 : decode c_F_lets 34 = .ok (.iload_n 2, 1) := by decide +kernel
theorem d_F_lets_35 : decode c_F_lets 35 = .ok (.invokevirtual 203, 3) := by decide +kernel
theorem d_F_lets_38 : decode c_F_lets 38 = .ok (.ireturn, 1) := by decide +kernel
theorem d_F_count_0 : decode c_F_count 0 = .ok (.iload_n 1, 1) := by decide +kernel
theorem d_F_count_1 : decode c_F_count 1 = .ok (.ifCond .lt 9, 3) := by decide +kernel
theorem d_F_count_4 : decode c_F_count 4 = .ok (.iload_n 1, 1) := by decide +kernel
theorem d_F_count_5 : decode c_F_count 5 = .ok (.bipush 18, 2) := by decide +kernel
theorem d_F_count_7 : decode c_F_count 7 = .ok (.if_icmp .lt 13, 3) := by decide +kernel
theorem d_F_count_10 : decode c_F_count 10 = .ok (.new 99, 3) := by decide +kernel
theorem d_F_count_13 : decode c_F_count 13 = .ok (.dup, 1) := by decide +kernel
theorem d_F_count_14 : decode c_F_count 14 = .ok (.ldc 206, 2) := by decide +kernel
theorem d_F_count_16 : decode c_F_count 16 = .ok (.invokespecial 103, 3) := by decide +kernel
theorem d_F_count_19 : decode c_F_count 19 = .ok (.athrow, 1) := by decide +kernel
theorem d_F_count_20 : decode c_F_count 20 = .ok (.iload_n 1, 1) := by decide +kernel
theorem d_F_count_21 : decode c_F_count 21 = .ok (.ifCond .ne 11, 3) := by decide +kernel
theorem d_F_count_24 : decode c_F_count 24 = .ok (.aload_n 0, 1) := by decide +kernel
theorem d_F_count_25 : decode c_F_count 25 = .ok (.getfield 12, 3) := by decide +kernel
theorem d_F_count_28 : decode c_F_count 28 = .ok (.invokevirtual 69, 3) := by decide +kernel
theorem d_F_count_31 : decode c_F_count 31 = .ok (.ireturn, 1) := by decide +kernel
theorem d_F_count_32 : decode c_F_count 32 = .ok (.iload_n 1, 1) := by decide +kernel
theorem d_F_count_33 : decode c_F_count 33 = .ok (.iconst 1, 1) := by decide +kernel
theorem d_F_count_34 : decode c_F_count 34 = .ok (.if_icmp .ne 13, 3) := by decide +kernel
theorem d_F_count_37 : decode c_F_count 37 = .ok (.aload_n 0, 1) := by decide +kernel
theorem d_F_count_38 : decode c_F_count 38 = .ok (.getfield 28, 3) := by decide +kernel
theorem d_F_count_41 : decode c_F_count 41 = .ok (.invokevirtual 135, 3) := by decide +kernel
theorem d_F_count_44 : decode c_F_count 44 = .ok (.goto 13, 3) := by decide +kernel
theorem d_F_count_47 : decode c_F_count 47 = .ok (.aload_n 0, 1) := by decide +kernel
theorem d_F_count_48 : decode c_F_count 48 = .ok (.getfield 12, 3) := by decide +kernel
theorem d_F_count_51 : decode c_F_count 51 = .ok (.iload_n 1, 1) := by decide +kernel
theorem d_F_count_52 : decode c_F_count 52 = .ok (.iconst 2, 1) := by decide +kernel
theorem d_F_count_53 : decode c_F_count 53 = .ok (.isub, 1) := by decide +kernel
theorem d_F_count_54 : decode c_F_count 54 = .ok (.invokevirtual 90, 3) := by decide +kernel
theorem d_F_count_57 : decode c_F_count 57 = .ok (.ireturn, 1) := by decide +kernel
theorem d_F_mustBeRule_0 : decode c_F_mustBeRule 0 = .ok (.iload_n 1, 1) := by decide +kernel
theorem d_F_mustBeRule_1 : decode c_F_mustBeRule 1 = .ok (.ifCond .lt 14, 3) := by decide +kernel
theorem d_F_mustBeRule_4 : decode c_F_mustBeRule 4 = .ok (.iload_n 1, 1) := by decide +kernel
theorem d_F_mustBeRule_5 : decode c_F_mustBeRule 5 = .ok (.aload_n 0, 1) := by decide +kernel
theorem d_F_mustBeRule_6 : decode c_F_mustBeRule 6 = .ok (.getfield 12, 3) := by decide +kernel
theorem d_F_mustBeRule_9 : decode c_F_mustBeRule 9 = .ok (.invokevirtual 69, 3) := by decide +kernel
theorem d_F_mustBeRule_12 : decode c_F_mustBeRule 12 = .ok (.if_icmp .lt 13, 3) := by decide +kernel
theorem d_F_mustBeRule_15 : decode c_F_mustBeRule 15 = .ok (.new 171, 3) := by decide +kernel
theorem d_F_mustBeRule_18 : decode c_F_mustBeRule 18 = .ok (.dup, 1) := by decide +kernel
theorem d_F_mustBeRule_19 : decode c_F_mustBeRule 19 = .ok (.ldc 208, 2) := by decide +kernel
theorem d_F_mustBeRule_21 : decode c_F_mustBeRule 21 = .ok (.invokespecial 175, 3) := by decide +kernel
theorem d_F_mustBeRule_24 : decode c_F_mustBeRule 24 = .ok (.athrow, 1) := by decide +kernel
theorem d_F_mustBeRule_25 : decode c_F_mustBeRule 25 = .ok (.return_, 1) := by decide +kernel
theorem d_F_mustBeRight_0 : decode c_F_mustBeRight 0 = .ok (.aload_n 0, 1) := by decide +kernel
theorem d_F_mustBeRight_1 : decode c_F_mustBeRight 1 = .ok (.getfield 21, 3) := by decide +kernel
theorem d_F_mustBeRight_4 : decode c_F_mustBeRight 4 = .ok (.invokevirtual 124, 3) := by decide +kernel
theorem d_F_mustBeRight_7 : decode c_F_mustBeRight 7 = .ok (.aload_n 0, 1) := by decide +kernel
theorem d_F_mustBeRight_8 : decode c_F_mustBeRight 8 = .ok (.getfield 21, 3) := by decide +kernel
theorem d_F_mustBeRight_11 : decode c_F_mustBeRight 11 = .ok (.invokevirtual 127, 3) := by decide +kernel
theorem d_F_mustBeRight_14 : decode c_F_mustBeRight 14 = .ok (.ifCond .eq 13, 3) := by decide +kernel
theorem d_F_mustBeRight_17 : decode c_F_mustBeRight 17 = .ok (.new 104, 3) := by decide +kernel
theorem d_F_mustBeRight_20 : decode c_F_mustBeRight 20 = .ok (.dup, 1) := by decide +kernel
theorem d_F_mustBeRight_21 : decode c_F_mustBeRight 21 = .ok (.ldc 210, 2) := by decide +kernel
theorem d_F_mustBeRight_23 : decode c_F_mustBeRight 23 = .ok (.invokespecial 108, 3) := by decide +kernel
theorem d_F_mustBeRight_26 : decode c_F_mustBeRight 26 = .ok (.athrow, 1) := by decide +kernel
theorem d_F_mustBeRight_27 : decode c_F_mustBeRight 27 = .ok (.return_, 1) := by decide +kernel
theorem d_F_has_0 : decode c_F_has 0 = .ok (.lload_n 0, 1) := by decide +kernel
theorem d_F_has_1 : decode c_F_has 1 = .ok (.iload_n 2, 1) := by decide +kernel
theorem d_F_has_2 : decode c_F_has 2 = .ok (.lushr, 1) := by decide +kernel
theorem d_F_has_3 : decode c_F_has 3 = .ok (.lconst 1, 1) := by decide +kernel
theorem d_F_has_4 : decode c_F_has 4 = .ok (.land, 1) := by decide +kernel
theorem d_F_has_5 : decode c_F_has 5 = .ok (.lconst 0, 1) := by decide +kernel
theorem d_F_has_6 : decode c_F_has 6 = .ok (.lcmp, 1) := by decide +kernel
theorem d_F_has_7 : decode c_F_has 7 = .ok (.ifCond .eq 7, 3) := by decide +kernel
theorem d_F_has_10 : decode c_F_has 10 = .ok (.iconst 1, 1) := by decide +kernel
theorem d_F_has_11 : decode c_F_has 11 = .ok (.goto 4, 3) := by decide +kernel
theorem d_F_has_14 : decode c_F_has 14 = .ok (.iconst 0, 1) := by decide +kernel
theorem d_F_has_15 : decode c_F_has 15 = .ok (.ireturn, 1) := by decide +kernel
theorem d_G_init_0 : decode c_G_init 0 = .ok (.aload_n 0, 1) := by decide +kernel
theorem d_G_init_1 : decode c_G_init 1 = .ok (.invokespecial 3, 3) := by decide +kernel
theorem d_G_init_4 : decode c_G_init 4 = .ok (.aload_n 0, 1) := by decide +kernel
theorem d_G_init_5 : decode c_G_init 5 = .ok (.bipush 16, 2) := by decide +kernel
theorem d_G_init_7 : decode c_G_init 7 = .ok (.newarray .int, 2) := by decide +kernel
theorem d_G_init_9 : decode c_G_init 9 = .ok (.putfield 9, 3) := by decide +kernel
theorem d_G_init_12 : decode c_G_init 12 = .ok (.aload_n 0, 1) := by decide +kernel
theorem d_G_init_13 : decode c_G_init 13 = .ok (.sipush 128, 3) := by decide +kernel
theorem d_G_init_16 : decode c_G_init 16 = .ok (.newarray .int, 2) := by decide +kernel
theorem d_G_init_18 : decode c_G_init 18 = .ok (.putfield 15, 3) := by decide +kernel
theorem d_G_init_21 : decode c_G_init 21 = .ok (.aload_n 0, 1) := by decide +kernel
theorem d_G_init_22 : decode c_G_init 22 = .ok (.sipush 1024, 3) := by decide +kernel
theorem d_G_init_25 : decode c_G_init 25 = .ok (.newarray .int, 2) := by decide +kernel
theorem d_G_init_27 : decode c_G_init 27 = .ok (.putfield 18, 3) := by decide +kernel
theorem d_G_init_30 : decode c_G_init 30 = .ok (.return_, 1) := by decide +kernel
theorem d_G_isToken_0 : decode c_G_isToken 0 = .ok (.iload_n 0, 1) := by decide +kernel
theorem d_G_isToken_1 : decode c_G_isToken 1 = .ok (.ifCond .lt 7, 3) := by decide +kernel
theorem d_G_isToken_4 : decode c_G_isToken 4 = .ok (.iconst 1, 1) := by decide +kernel
theorem d_G_isToken_5 : decode c_G_isToken 5 = .ok (.goto 4, 3) := by decide +kernel
theorem d_G_isToken_8 : decode c_G_isToken 8 = .ok (.iconst 0, 1) := by decide +kernel
theorem d_G_isToken_9 : decode c_G_isToken 9 = .ok (.ireturn, 1) := by decide +kernel
theorem d_G_ruleOf_0 : decode c_G_ruleOf 0 = .ok (.iconst (-1), 1) := by decide +kernel
theorem d_G_ruleOf_1 : decode c_G_ruleOf 1 = .ok (.iload_n 0, 1) := by decide +kernel
theorem d_G_ruleOf_2 : decode c_G_ruleOf 2 = .ok (.isub, 1) := by decide +kernel
theorem d_G_ruleOf_3 : decode c_G_ruleOf 3 = .ok (.ireturn, 1) := by decide +kernel
theorem d_G_row_0 : decode c_G_row 0 = .ok (.iload_n 0, 1) := by decide +kernel
theorem d_G_row_1 : decode c_G_row 1 = .ok (.bipush 8, 2) := by decide +kernel
theorem d_G_row_3 : decode c_G_row 3 = .ok (.imul, 1) := by decide +kernel
theorem d_G_row_4 : decode c_G_row 4 = .ok (.iload_n 1, 1) := by decide +kernel
theorem d_G_row_5 : decode c_G_row 5 = .ok (.iadd, 1) := by decide +kernel
theorem d_G_row_6 : decode c_G_row 6 = .ok (.ireturn, 1) := by decide +kernel
theorem d_G_addRule_0 : decode c_G_addRule 0 = .ok (.aload_n 0, 1) := by decide +kernel
theorem d_G_addRule_1 : decode c_G_addRule 1 = .ok (.getfield 9, 3) := by decide +kernel
theorem d_G_addRule_4 : decode c_G_addRule 4 = .ok (.aload_n 0, 1) := by decide +kernel
theorem d_G_addRule_5 : decode c_G_addRule 5 = .ok (.getfield 21, 3) := by decide +kernel
theorem d_G_addRule_8 : decode c_G_addRule 8 = .ok (.iconst 0, 1) := by decide +kernel
theorem d_G_addRule_9 : decode c_G_addRule 9 = .ok (.iastore, 1) := by decide +kernel
theorem d_G_addRule_10 : decode c_G_addRule 10 = .ok (.aload_n 0, 1) := by decide +kernel
theorem d_G_addRule_11 : decode c_G_addRule 11 = .ok (.dup, 1) := by decide +kernel
theorem d_G_addRule_12 : decode c_G_addRule 12 = .ok (.getfield 21, 3) := by decide +kernel
theorem d_G_addRule_15 : decode c_G_addRule 15 = .ok (.iconst 1, 1) := by decide +kernel
theorem d_G_addRule_16 : decode c_G_addRule 16 = .ok (.iadd, 1) := by decide +kernel
theorem d_G_addRule_17 : decode c_G_addRule 17 = .ok (.putfield 21, 3) := by decide +kernel
theorem d_G_addRule_20 : decode c_G_addRule 20 = .ok (.aload_n 0, 1) := by decide +kernel
theorem d_G_addRule_21 : decode c_G_addRule 21 = .ok (.getfield 21, 3) := by decide +kernel
theorem d_G_addRule_24 : decode c_G_addRule 24 = .ok (.iconst 1, 1) := by decide +kernel
theorem d_G_addRule_25 : decode c_G_addRule 25 = .ok (.isub, 1) := by decide +kernel
theorem d_G_addRule_26 : decode c_G_addRule 26 = .ok (.ireturn, 1) := by decide +kernel
theorem d_G_addAlternative_0 : decode c_G_addAlternative 0 = .ok (.aload_n 0, 1) := by decide +kernel
theorem d_G_addAlternative_1 : decode c_G_addAlternative 1 = .ok (.getfield 9, 3) := by decide +kernel
theorem d_G_addAlternative_4 : decode c_G_addAlternative 4 = .ok (.iload_n 1, 1) := by decide +kernel
theorem d_G_addAlternative_5 : decode c_G_addAlternative 5 = .ok (.dup2, 1) := by decide +kernel
theorem d_G_addAlternative_6 : decode c_G_addAlternative 6 = .ok (.iaload, 1) := by decide +kernel
theorem d_G_addAlternative_7 : decode c_G_addAlternative 7 = .ok (.iconst 1, 1) := by decide +kernel
theorem d_G_addAlternative_8 : decode c_G_addAlternative 8 = .ok (.iadd, 1) := by decide +kernel
theorem d_G_addAlternative_9 : decode c_G_addAlternative 9 = .ok (.iastore, 1) := by decide +kernel
theorem d_G_addAlternative_10 : decode c_G_addAlternative 10 = .ok (.aload_n 0, 1) := by decide +kernel
theorem d_G_addAlternative_11 : decode c_G_addAlternative 11 = .ok (.getfield 15, 3) := by decide +kernel
theorem d_G_addAlternative_14 : decode c_G_addAlternative 14 = .ok (.aload_n 0, 1) := by decide +kernel
theorem d_G_addAlternative_15 : decode c_G_addAlternative 15 = .ok (.iload_n 1, 1) := by decide +kernel
theorem d_G_addAlternative_16 : decode c_G_addAlternative 16 = .ok (.invokevirtual 25, 3) := by decide +kernel
theorem d_G_addAlternative_19 : decode c_G_addAlternative 19 = .ok (.iconst 0, 1) := by decide +kernel
theorem d_G_addAlternative_20 : decode c_G_addAlternative 20 = .ok (.iastore, 1) := by decide +kernel
theorem d_G_addAlternative_21 : decode c_G_addAlternative 21 = .ok (.aload_n 0, 1) := by decide +kernel
theorem d_G_addAlternative_22 : decode c_G_addAlternative 22 = .ok (.getfield 9, 3) := by decide +kernel
theorem d_G_addAlternative_25 : decode c_G_addAlternative 25 = .ok (.iload_n 1, 1) := by decide +kernel
theorem d_G_addAlternative_26 : decode c_G_addAlternative 26 = .ok (.iaload, 1) := by decide +kernel
theorem d_G_addAlternative_27 : decode c_G_addAlternative 27 = .ok (.iconst 1, 1) := by decide +kernel
theorem d_G_addAlternative_28 : decode c_G_addAlternative 28 = .ok (.isub, 1) := by decide +kernel
theorem d_G_addAlternative_29 : decode c_G_addAlternative 29 = .ok (.ireturn, 1) := by decide +kernel
theorem d_G_addSymbol_0 : decode c_G_addSymbol 0 = .ok (.aload_n 0, 1) := by decide +kernel
theorem d_G_addSymbol_1 : decode c_G_addSymbol 1 = .ok (.iload_n 1, 1) := by decide +kernel
theorem d_G_addSymbol_2 : decode c_G_addSymbol 2 = .ok (.invokevirtual 25, 3) := by decide +kernel
theorem d_G_addSymbol_5 : decode c_G_addSymbol 5 = .ok (.istore_n 3, 1) := by decide +kernel
theorem d_G_addSymbol_6 : decode c_G_addSymbol 6 = .ok (.aload_n 0, 1) := by decide +kernel
theorem d_G_addSymbol_7 : decode c_G_addSymbol 7 = .ok (.getfield 18, 3) := by decide +kernel
theorem d_G_addSymbol_10 : decode c_G_addSymbol 10 = .ok (.iload_n 3, 1) := by decide +kernel
theorem d_G_addSymbol_11 : decode c_G_addSymbol 11 = .ok (.bipush 8, 2) := by decide +kernel
theorem d_G_addSymbol_13 : decode c_G_addSymbol 13 = .ok (.imul, 1) := by decide +kernel
theorem d_G_addSymbol_14 : decode c_G_addSymbol 14 = .ok (.aload_n 0, 1) := by decide +kernel
theorem d_G_addSymbol_15 : decode c_G_addSymbol 15 = .ok (.getfield 15, 3) := by decide +kernel
theorem d_G_addSymbol_18 : decode c_G_addSymbol 18 = .ok (.iload_n 3, 1) := by decide +kernel
theorem d_G_addSymbol_19 : decode c_G_addSymbol 19 = .ok (.iaload, 1) := by decide +kernel
theorem d_G_addSymbol_20 : decode c_G_addSymbol 20 = .ok (.iadd, 1) := by decide +kernel
theorem d_G_addSymbol_21 : decode c_G_addSymbol 21 = .ok (.iload_n 2, 1) := by decide +kernel
theorem d_G_addSymbol_22 : decode c_G_addSymbol 22 = .ok (.iastore, 1) := by decide +kernel
theorem d_G_addSymbol_23 : decode c_G_addSymbol 23 = .ok (.aload_n 0, 1) := by decide +kernel
theorem d_G_addSymbol_24 : decode c_G_addSymbol 24 = .ok (.getfield 15, 3) := by decide +kernel
theorem d_G_addSymbol_27 : decode c_G_addSymbol 27 = .ok (.iload_n 3, 1) := by decide +kernel
theorem d_G_addSymbol_28 : decode c_G_addSymbol 28 = .ok (.dup2, 1) := by decide +kernel
theorem d_G_addSymbol_29 : decode c_G_addSymbol 29 = .ok (.iaload, 1) := by decide +kernel
theorem d_G_addSymbol_30 : decode c_G_addSymbol 30 = .ok (.iconst 1, 1) := by decide +kernel
theorem d_G_addSymbol_31 : decode c_G_addSymbol 31 = .ok (.iadd, 1) := by decide +kernel
theorem d_G_addSymbol_32 : decode c_G_addSymbol 32 = .ok (.iastore, 1) := by decide +kernel
theorem d_G_addSymbol_33 : decode c_G_addSymbol 33 = .ok (.aload_n 0, 1) := by decide +kernel
theorem d_G_addSymbol_34 : decode c_G_addSymbol 34 = .ok (.getfield 15, 3) := by decide +kernel
theorem d_G_addSymbol_37 : decode c_G_addSymbol 37 = .ok (.iload_n 3, 1) := by decide +kernel
theorem d_G_addSymbol_38 : decode c_G_addSymbol 38 = .ok (.iaload, 1) := by decide +kernel
theorem d_G_addSymbol_39 : decode c_G_addSymbol 39 = .ok (.ireturn, 1) := by decide +kernel
theorem d_G_loseRules_0 : decode c_G_loseRules 0 = .ok (.aload_n 0, 1) := by decide +kernel
theorem d_G_loseRules_1 : decode c_G_loseRules 1 = .ok (.getfield 21, 3) := by decide +kernel
theorem d_G_loseRules_4 : decode c_G_loseRules 4 = .ok (.istore_n 1, 1) := by decide +kernel
theorem d_G_loseRules_5 : decode c_G_loseRules 5 = .ok (.aload_n 0, 1) := by decide +kernel
theorem d_G_loseRules_6 : decode c_G_loseRules 6 = .ok (.iconst 0, 1) := by decide +kernel
theorem d_G_loseRules_7 : decode c_G_loseRules 7 = .ok (.putfield 21, 3) := by decide +kernel
theorem d_G_loseRules_10 : decode c_G_loseRules 10 = .ok (.iload_n 1, 1) := by decide +kernel
theorem d_G_loseRules_11 : decode c_G_loseRules 11 = .ok (.ireturn, 1) := by decide +kernel
theorem d_G_rules_0 : decode c_G_rules 0 = .ok (.aload_n 0, 1) := by decide +kernel
theorem d_G_rules_1 : decode c_G_rules 1 = .ok (.getfield 21, 3) := by decide +kernel
theorem d_G_rules_4 : decode c_G_rules 4 = .ok (.ireturn, 1) := by decide +kernel
theorem d_G_alternatives_0 : decode c_G_alternatives 0 = .ok (.iload_n 1, 1) := by decide +kernel
theorem d_G_alternatives_1 : decode c_G_alternatives 1 = .ok (.aload_n 0, 1) := by decide +kernel
theorem d_G_alternatives_2 : decode c_G_alternatives 2 = .ok (.getfield 21, 3) := by decide +kernel
theorem d_G_alternatives_5 : decode c_G_alternatives 5 = .ok (.if_icmp .ge 12, 3) := by decide +kernel
theorem d_G_alternatives_8 : decode c_G_alternatives 8 = .ok (.aload_n 0, 1) := by decide +kernel
theorem d_G_alternatives_9 : decode c_G_alternatives 9 = .ok (.getfield 9, 3) := by decide +kernel
theorem d_G_alternatives_12 : decode c_G_alternatives 12 = .ok (.iload_n 1, 1) := by decide +kernel
theorem d_G_alternatives_13 : decode c_G_alternatives 13 = .ok (.iaload, 1) := by decide +kernel
theorem d_G_alternatives_14 : decode c_G_alternatives 14 = .ok (.goto 4, 3) := by decide +kernel
theorem d_G_alternatives_17 : decode c_G_alternatives 17 = .ok (.iconst 0, 1) := by decide +kernel
theorem d_G_alternatives_18 : decode c_G_alternatives 18 = .ok (.ireturn, 1) := by decide +kernel
theorem d_G_latestRow_0 : decode c_G_latestRow 0 = .ok (.iload_n 1, 1) := by decide +kernel
theorem d_G_latestRow_1 : decode c_G_latestRow 1 = .ok (.aload_n 0, 1) := by decide +kernel
theorem d_G_latestRow_2 : decode c_G_latestRow 2 = .ok (.getfield 9, 3) := by decide +kernel
theorem d_G_latestRow_5 : decode c_G_latestRow 5 = .ok (.iload_n 1, 1) := by decide +kernel
theorem d_G_latestRow_6 : decode c_G_latestRow 6 = .ok (.iaload, 1) := by decide +kernel
theorem d_G_latestRow_7 : decode c_G_latestRow 7 = .ok (.iconst 1, 1) := by decide +kernel
theorem d_G_latestRow_8 : decode c_G_latestRow 8 = .ok (.isub, 1) := by decide +kernel
theorem d_G_latestRow_9 : decode c_G_latestRow 9 = .ok (.invokestatic 29, 3) := by decide +kernel
theorem d_G_latestRow_12 : decode c_G_latestRow 12 = .ok (.ireturn, 1) := by decide +kernel
theorem d_G_length_0 : decode c_G_length 0 = .ok (.aload_n 0, 1) := by decide +kernel
theorem d_G_length_1 : decode c_G_length 1 = .ok (.getfield 15, 3) := by decide +kernel
theorem d_G_length_4 : decode c_G_length 4 = .ok (.iload_n 1, 1) := by decide +kernel
theorem d_G_length_5 : decode c_G_length 5 = .ok (.iaload, 1) := by decide +kernel
theorem d_G_length_6 : decode c_G_length 6 = .ok (.ireturn, 1) := by decide +kernel
theorem d_G_symbolAt_0 : decode c_G_symbolAt 0 = .ok (.aload_n 0, 1) := by decide +kernel
theorem d_G_symbolAt_1 : decode c_G_symbolAt 1 = .ok (.getfield 18, 3) := by decide +kernel
theorem d_G_symbolAt_4 : decode c_G_symbolAt 4 = .ok (.iload_n 1, 1) := by decide +kernel
theorem d_G_symbolAt_5 : decode c_G_symbolAt 5 = .ok (.bipush 8, 2) := by decide +kernel
theorem d_G_symbolAt_7 : decode c_G_symbolAt 7 = .ok (.imul, 1) := by decide +kernel
theorem d_G_symbolAt_8 : decode c_G_symbolAt 8 = .ok (.iload_n 2, 1) := by decide +kernel
theorem d_G_symbolAt_9 : decode c_G_symbolAt 9 = .ok (.iadd, 1) := by decide +kernel
theorem d_G_symbolAt_10 : decode c_G_symbolAt 10 = .ok (.iaload, 1) := by decide +kernel
theorem d_G_symbolAt_11 : decode c_G_symbolAt 11 = .ok (.ireturn, 1) := by decide +kernel
theorem d_G_rulesIn_0 : decode c_G_rulesIn 0 = .ok (.iconst 0, 1) := by decide +kernel
theorem d_G_rulesIn_1 : decode c_G_rulesIn 1 = .ok (.istore_n 2, 1) := by decide +kernel
theorem d_G_rulesIn_2 : decode c_G_rulesIn 2 = .ok (.iconst 0, 1) := by decide +kernel
theorem d_G_rulesIn_3 : decode c_G_rulesIn 3 = .ok (.istore_n 3, 1) := by decide +kernel
theorem d_G_rulesIn_4 : decode c_G_rulesIn 4 = .ok (.iload_n 3, 1) := by decide +kernel
theorem d_G_rulesIn_5 : decode c_G_rulesIn 5 = .ok (.aload_n 0, 1) := by decide +kernel
theorem d_G_rulesIn_6 : decode c_G_rulesIn 6 = .ok (.getfield 15, 3) := by decide +kernel
theorem d_G_rulesIn_9 : decode c_G_rulesIn 9 = .ok (.iload_n 1, 1) := by decide +kernel
theorem d_G_rulesIn_10 : decode c_G_rulesIn 10 = .ok (.iaload, 1) := by decide +kernel
theorem d_G_rulesIn_11 : decode c_G_rulesIn 11 = .ok (.if_icmp .ge 24, 3) := by decide +kernel
theorem d_G_rulesIn_14 : decode c_G_rulesIn 14 = .ok (.aload_n 0, 1) := by decide +kernel
theorem d_G_rulesIn_15 : decode c_G_rulesIn 15 = .ok (.iload_n 1, 1) := by decide +kernel
theorem d_G_rulesIn_16 : decode c_G_rulesIn 16 = .ok (.iload_n 3, 1) := by decide +kernel
theorem d_G_rulesIn_17 : decode c_G_rulesIn 17 = .ok (.invokevirtual 33, 3) := by decide +kernel
theorem d_G_rulesIn_20 : decode c_G_rulesIn 20 = .ok (.invokestatic 36, 3) := by decide +kernel
theorem d_G_rulesIn_23 : decode c_G_rulesIn 23 = .ok (.ifCond .ne 6, 3) := by decide +kernel
theorem d_G_rulesIn_26 : decode c_G_rulesIn 26 = .ok (.iinc 2 1, 3) := by decide +kernel
theorem d_G_rulesIn_29 : decode c_G_rulesIn 29 = .ok (.iinc 3 1, 3) := by decide +kernel
theorem d_G_rulesIn_32 : decode c_G_rulesIn 32 = .ok (.goto (-28), 3) := by decide +kernel
theorem d_G_rulesIn_35 : decode c_G_rulesIn 35 = .ok (.iload_n 2, 1) := by decide +kernel
theorem d_G_rulesIn_36 : decode c_G_rulesIn 36 = .ok (.ireturn, 1) := by decide +kernel
theorem d_I_init_0 : decode c_I_init 0 = .ok (.aload_n 0, 1) := by decide +kernel
theorem d_I_init_1 : decode c_I_init 1 = .ok (.invokespecial 3, 3) := by decide +kernel
theorem d_I_init_4 : decode c_I_init 4 = .ok (.aload_n 0, 1) := by decide +kernel
theorem d_I_init_5 : decode c_I_init 5 = .ok (.bipush 60, 2) := by decide +kernel
theorem d_I_init_7 : decode c_I_init 7 = .ok (.newarray .int, 2) := by decide +kernel
theorem d_I_init_9 : decode c_I_init 9 = .ok (.putfield 9, 3) := by decide +kernel
theorem d_I_init_12 : decode c_I_init 12 = .ok (.return_, 1) := by decide +kernel
theorem d_I_add_0 : decode c_I_add 0 = .ok (.aload_n 0, 1) := by decide +kernel
theorem d_I_add_1 : decode c_I_add 1 = .ok (.getfield 9, 3) := by decide +kernel
theorem d_I_add_4 : decode c_I_add 4 = .ok (.aload_n 0, 1) := by decide +kernel
theorem d_I_add_5 : decode c_I_add 5 = .ok (.getfield 15, 3) := by decide +kernel
theorem d_I_add_8 : decode c_I_add 8 = .ok (.iload_n 1, 1) := by decide +kernel
theorem d_I_add_9 : decode c_I_add 9 = .ok (.iastore, 1) := by decide +kernel
theorem d_I_add_10 : decode c_I_add 10 = .ok (.aload_n 0, 1) := by decide +kernel
theorem d_I_add_11 : decode c_I_add 11 = .ok (.dup, 1) := by decide +kernel
theorem d_I_add_12 : decode c_I_add 12 = .ok (.getfield 15, 3) := by decide +kernel
theorem d_I_add_15 : decode c_I_add 15 = .ok (.iconst 1, 1) := by decide +kernel
theorem d_I_add_16 : decode c_I_add 16 = .ok (.iadd, 1) := by decide +kernel
theorem d_I_add_17 : decode c_I_add 17 = .ok (.putfield 15, 3) := by decide +kernel
theorem d_I_add_20 : decode c_I_add 20 = .ok (.aload_n 0, 1) := by decide +kernel
theorem d_I_add_21 : decode c_I_add 21 = .ok (.getfield 15, 3) := by decide +kernel
theorem d_I_add_24 : decode c_I_add 24 = .ok (.ireturn, 1) := by decide +kernel
theorem d_I_cut_0 : decode c_I_cut 0 = .ok (.aload_n 0, 1) := by decide +kernel
theorem d_I_cut_1 : decode c_I_cut 1 = .ok (.iload_n 1, 1) := by decide +kernel
theorem d_I_cut_2 : decode c_I_cut 2 = .ok (.putfield 15, 3) := by decide +kernel
theorem d_I_cut_5 : decode c_I_cut 5 = .ok (.return_, 1) := by decide +kernel
theorem d_I_size_0 : decode c_I_size 0 = .ok (.aload_n 0, 1) := by decide +kernel
theorem d_I_size_1 : decode c_I_size 1 = .ok (.getfield 15, 3) := by decide +kernel
theorem d_I_size_4 : decode c_I_size 4 = .ok (.ireturn, 1) := by decide +kernel
theorem d_I_tokenAt_0 : decode c_I_tokenAt 0 = .ok (.aload_n 0, 1) := by decide +kernel
theorem d_I_tokenAt_1 : decode c_I_tokenAt 1 = .ok (.getfield 9, 3) := by decide +kernel
theorem d_I_tokenAt_4 : decode c_I_tokenAt 4 = .ok (.iload_n 1, 1) := by decide +kernel
theorem d_I_tokenAt_5 : decode c_I_tokenAt 5 = .ok (.iaload, 1) := by decide +kernel
theorem d_I_tokenAt_6 : decode c_I_tokenAt 6 = .ok (.ireturn, 1) := by decide +kernel
theorem d_P_init_0 : decode c_P_init 0 = .ok (.aload_n 0, 1) := by decide +kernel
theorem d_P_init_1 : decode c_P_init 1 = .ok (.invokespecial 3, 3) := by decide +kernel
theorem d_P_init_4 : decode c_P_init 4 = .ok (.aload_n 0, 1) := by decide +kernel
theorem d_P_init_5 : decode c_P_init 5 = .ok (.bipush 61, 2) := by decide +kernel
theorem d_P_init_7 : decode c_P_init 7 = .ok (.newarray .int, 2) := by decide +kernel
theorem d_P_init_9 : decode c_P_init 9 = .ok (.putfield 9, 3) := by decide +kernel
theorem d_P_init_12 : decode c_P_init 12 = .ok (.return_, 1) := by decide +kernel
theorem d_S_init_0 : decode c_S_init 0 = .ok (.aload_n 0, 1) := by decide +kernel
theorem d_S_init_1 : decode c_S_init 1 = .ok (.invokespecial 3, 3) := by decide +kernel
theorem d_S_init_4 : decode c_S_init 4 = .ok (.aload_n 0, 1) := by decide +kernel
theorem d_S_init_5 : decode c_S_init 5 = .ok (.bipush 16, 2) := by decide +kernel
theorem d_S_init_7 : decode c_S_init 7 = .ok (.newarray .int, 2) := by decide +kernel
theorem d_S_init_9 : decode c_S_init 9 = .ok (.putfield 9, 3) := by decide +kernel
theorem d_S_init_12 : decode c_S_init 12 = .ok (.aload_n 0, 1) := by decide +kernel
theorem d_S_init_13 : decode c_S_init 13 = .ok (.bipush 16, 2) := by decide +kernel
theorem d_S_init_15 : decode c_S_init 15 = .ok (.newarray .int, 2) := by decide +kernel
theorem d_S_init_17 : decode c_S_init 17 = .ok (.putfield 15, 3) := by decide +kernel
theorem d_S_init_20 : decode c_S_init 20 = .ok (.aload_n 0, 1) := by decide +kernel
theorem d_S_init_21 : decode c_S_init 21 = .ok (.bipush 16, 2) := by decide +kernel
theorem d_S_init_23 : decode c_S_init 23 = .ok (.newarray .long, 2) := by decide +kernel
theorem d_S_init_25 : decode c_S_init 25 = .ok (.putfield 18, 3) := by decide +kernel
theorem d_S_init_28 : decode c_S_init 28 = .ok (.aload_n 0, 1) := by decide +kernel
theorem d_S_init_29 : decode c_S_init 29 = .ok (.bipush 16, 2) := by decide +kernel
theorem d_S_init_31 : decode c_S_init 31 = .ok (.newarray .long, 2) := by decide +kernel
theorem d_S_init_33 : decode c_S_init 33 = .ok (.putfield 22, 3) := by decide +kernel
theorem d_S_init_36 : decode c_S_init 36 = .ok (.aload_n 0, 1) := by decide +kernel
theorem d_S_init_37 : decode c_S_init 37 = .ok (.aload_n 1, 1) := by decide +kernel
theorem d_S_init_38 : decode c_S_init 38 = .ok (.putfield 25, 3) := by decide +kernel
theorem d_S_init_41 : decode c_S_init 41 = .ok (.return_, 1) := by decide +kernel
theorem d_S_outdate_0 : decode c_S_outdate 0 = .ok (.aload_n 0, 1) := by decide +kernel
theorem d_S_outdate_1 : decode c_S_outdate 1 = .ok (.iconst 0, 1) := by decide +kernel
theorem d_S_outdate_2 : decode c_S_outdate 2 = .ok (.putfield 29, 3) := by decide +kernel
theorem d_S_outdate_5 : decode c_S_outdate 5 = .ok (.return_, 1) := by decide +kernel
theorem d_S_bringUpToDate_0 : decode c_S_bringUpToDate 0 = .ok (.aload_n 0, 1) := by decide +kernel
theorem d_S_bringUpToDate_1 : decode c_S_bringUpToDate 1 = .ok (.getfield 29, 3) := by decide +kernel
theorem d_S_bringUpToDate_4 : decode c_S_bringUpToDate 4 = .ok (.ifCond .eq 4, 3) := by decide +kernel
theorem d_S_bringUpToDate_7 : decode c_S_bringUpToDate 7 = .ok (.return_, 1) := by decide +kernel
theorem d_S_bringUpToDate_8 : decode c_S_bringUpToDate 8 = .ok (.aload_n 0, 1) := by decide +kernel
theorem d_S_bringUpToDate_9 : decode c_S_bringUpToDate 9 = .ok (.iconst 1, 1) := by decide +kernel
theorem d_S_bringUpToDate_10 : decode c_S_bringUpToDate 10 = .ok (.putfield 29, 3) := by decide +kernel
theorem d_S_bringUpToDate_13 : decode c_S_bringUpToDate 13 = .ok (.aload_n 0, 1) := by decide +kernel
theorem d_S_bringUpToDate_14 : decode c_S_bringUpToDate 14 = .ok (.invokevirtual 33, 3) := by decide +kernel
theorem d_S_bringUpToDate_17 : decode c_S_bringUpToDate 17 = .ok (.aload_n 0, 1) := by decide +kernel
theorem d_S_bringUpToDate_18 : decode c_S_bringUpToDate 18 = .ok (.invokevirtual 36, 3) := by decide +kernel
theorem d_S_bringUpToDate_21 : decode c_S_bringUpToDate 21 = .ok (.aload_n 0, 1) := by decide +kernel
theorem d_S_bringUpToDate_22 : decode c_S_bringUpToDate 22 = .ok (.invokevirtual 39, 3) := by decide +kernel
theorem d_S_bringUpToDate_25 : decode c_S_bringUpToDate 25 = .ok (.aload_n 0, 1) := by decide +kernel
theorem d_S_bringUpToDate_26 : decode c_S_bringUpToDate 26 = .ok (.getfield 42, 3) := by decide +kernel
theorem d_S_bringUpToDate_29 : decode c_S_bringUpToDate 29 = .ok (.ifCond .ne 15, 3) := by decide +kernel
theorem d_S_bringUpToDate_32 : decode c_S_bringUpToDate 32 = .ok (.aload_n 0, 1) := by decide +kernel
theorem d_S_bringUpToDate_33 : decode c_S_bringUpToDate 33 = .ok (.invokevirtual 46, 3) := by decide +kernel
theorem d_S_bringUpToDate_36 : decode c_S_bringUpToDate 36 = .ok (.aload_n 0, 1) := by decide +kernel
theorem d_S_bringUpToDate_37 : decode c_S_bringUpToDate 37 = .ok (.invokevirtual 49, 3) := by decide +kernel
theorem d_S_bringUpToDate_40 : decode c_S_bringUpToDate 40 = .ok (.aload_n 0, 1) := by decide +kernel
theorem d_S_bringUpToDate_41 : decode c_S_bringUpToDate 41 = .ok (.invokevirtual 52, 3) := by decide +kernel
theorem d_S_bringUpToDate_44 : decode c_S_bringUpToDate 44 = .ok (.return_, 1) := by decide +kernel
theorem d_S_faultKind_0 : decode c_S_faultKind 0 = .ok (.aload_n 0, 1) := by decide +kernel
theorem d_S_faultKind_1 : decode c_S_faultKind 1 = .ok (.getfield 42, 3) := by decide +kernel
theorem d_S_faultKind_4 : decode c_S_faultKind 4 = .ok (.ireturn, 1) := by decide +kernel
theorem d_S_faultyRule_0 : decode c_S_faultyRule 0 = .ok (.aload_n 0, 1) := by decide +kernel
theorem d_S_faultyRule_1 : decode c_S_faultyRule 1 = .ok (.getfield 55, 3) := by decide +kernel
theorem d_S_faultyRule_4 : decode c_S_faultyRule 4 = .ok (.ireturn, 1) := by decide +kernel
theorem d_S_inOrder_0 : decode c_S_inOrder 0 = .ok (.aload_n 0, 1) := by decide +kernel
theorem d_S_inOrder_1 : decode c_S_inOrder 1 = .ok (.getfield 15, 3) := by decide +kernel
theorem d_S_inOrder_4 : decode c_S_inOrder 4 = .ok (.iload_n 1, 1) := by decide +kernel
theorem d_S_inOrder_5 : decode c_S_inOrder 5 = .ok (.iaload, 1) := by decide +kernel
theorem d_S_inOrder_6 : decode c_S_inOrder 6 = .ok (.ireturn, 1) := by decide +kernel
theorem d_S_ruleIsNothing_0 : decode c_S_ruleIsNothing 0 = .ok (.aload_n 0, 1) := by decide +kernel
theorem d_S_ruleIsNothing_1 : decode c_S_ruleIsNothing 1 = .ok (.getfield 58, 3) := by decide +kernel
theorem d_S_ruleIsNothing_4 : decode c_S_ruleIsNothing 4 = .ok (.i2l, 1) := by decide +kernel
theorem d_S_ruleIsNothing_5 : decode c_S_ruleIsNothing 5 = .ok (.iload_n 1, 1) := by decide +kernel
theorem d_S_ruleIsNothing_6 : decode c_S_ruleIsNothing 6 = .ok (.invokestatic 61, 3) := by decide +kernel
theorem d_S_ruleIsNothing_9 : decode c_S_ruleIsNothing 9 = .ok (.ireturn, 1) := by decide +kernel
theorem d_S_ruleFirst_0 : decode c_S_ruleFirst 0 = .ok (.aload_n 0, 1) := by decide +kernel
theorem d_S_ruleFirst_1 : decode c_S_ruleFirst 1 = .ok (.getfield 18, 3) := by decide +kernel
theorem d_S_ruleFirst_4 : decode c_S_ruleFirst 4 = .ok (.iload_n 1, 1) := by decide +kernel
theorem d_S_ruleFirst_5 : decode c_S_ruleFirst 5 = .ok (.laload, 1) := by decide +kernel
theorem d_S_ruleFirst_6 : decode c_S_ruleFirst 6 = .ok (.lreturn, 1) := by decide +kernel
theorem d_S_ruleFollowing_0 : decode c_S_ruleFollowing 0 = .ok (.aload_n 0, 1) := by decide +kernel
theorem d_S_ruleFollowing_1 : decode c_S_ruleFollowing 1 = .ok (.getfield 22, 3) := by decide +kernel
theorem d_S_ruleFollowing_4 : decode c_S_ruleFollowing 4 = .ok (.iload_n 1, 1) := by decide +kernel
theorem d_S_ruleFollowing_5 : decode c_S_ruleFollowing 5 = .ok (.laload, 1) := by decide +kernel
theorem d_S_ruleFollowing_6 : decode c_S_ruleFollowing 6 = .ok (.lreturn, 1) := by decide +kernel
theorem d_S_letIn_0 : decode c_S_letIn 0 = .ok (.iconst 0, 1) := by decide +kernel
theorem d_S_letIn_1 : decode c_S_letIn 1 = .ok (.istore_n 3, 1) := by decide +kernel
theorem d_S_letIn_2 : decode c_S_letIn 2 = .ok (.iconst 0, 1) := by decide +kernel
theorem d_S_letIn_3 : decode c_S_letIn 3 = .ok (.istore 4, 2) := by decide +kernel
theorem d_S_letIn_5 : decode c_S_letIn 5 = .ok (.iload 4, 2) := by decide +kernel
theorem d_S_letIn_7 : decode c_S_letIn 7 = .ok (.aload_n 0, 1) := by decide +kernel
theorem d_S_letIn_8 : decode c_S_letIn 8 = .ok (.getfield 25, 3) := by decide +kernel
theorem d_S_letIn_11 : decode c_S_letIn 11 = .ok (.iload_n 1, 1) := by decide +kernel
theorem d_S_letIn_12 : decode c_S_letIn 12 = .ok (.invokevirtual 65, 3) := by decide +kernel
theorem d_S_letIn_15 : decode c_S_letIn 15 = .ok (.if_icmp .ge 59, 3) := by decide +kernel
theorem d_S_letIn_18 : decode c_S_letIn 18 = .ok (.iload_n 1, 1) := by decide +kernel
theorem d_S_letIn_19 : decode c_S_letIn 19 = .ok (.iload 4, 2) := by decide +kernel
theorem d_S_letIn_21 : decode c_S_letIn 21 = .ok (.invokestatic 71, 3) := by decide +kernel
theorem d_S_letIn_24 : decode c_S_letIn 24 = .ok (.istore 5, 2) := by decide +kernel
theorem d_S_letIn_26 : decode c_S_letIn 26 = .ok (.aload_n 0, 1) := by decide +kernel
theorem d_S_letIn_27 : decode c_S_letIn 27 = .ok (.iload 5, 2) := by decide +kernel
theorem d_S_letIn_29 : decode c_S_letIn 29 = .ok (.invokevirtual 75, 3) := by decide +kernel
theorem d_S_letIn_32 : decode c_S_letIn 32 = .ok (.iload_n 2, 1) := by decide +kernel
theorem d_S_letIn_33 : decode c_S_letIn 33 = .ok (.invokestatic 61, 3) := by decide +kernel
theorem d_S_letIn_36 : decode c_S_letIn 36 = .ok (.ifCond .ne 25, 3) := by decide +kernel
theorem d_S_letIn_39 : decode c_S_letIn 39 = .ok (.aload_n 0, 1) := by decide +kernel
theorem d_S_letIn_40 : decode c_S_letIn 40 = .ok (.iload 5, 2) := by decide +kernel
theorem d_S_letIn_42 : decode c_S_letIn 42 = .ok (.invokevirtual 79, 3) := by decide +kernel
theorem d_S_letIn_45 : decode c_S_letIn 45 = .ok (.ifCond .eq 23, 3) := by decide +kernel
theorem d_S_letIn_48 : decode c_S_letIn 48 = .ok (.aload_n 0, 1) := by decide +kernel
theorem d_S_letIn_49 : decode c_S_letIn 49 = .ok (.getfield 22, 3) := by decide +kernel
theorem d_S_letIn_52 : decode c_S_letIn 52 = .ok (.iload_n 1, 1) := by decide +kernel
theorem d_S_letIn_53 : decode c_S_letIn 53 = .ok (.laload, 1) := by decide +kernel
theorem d_S_letIn_54 : decode c_S_letIn 54 = .ok (.iload_n 2, 1) := by decide +kernel
theorem d_S_letIn_55 : decode c_S_letIn 55 = .ok (.invokestatic 61, 3) := by decide +kernel
theorem d_S_letIn_58 : decode c_S_letIn 58 = .ok (.ifCond .eq 10, 3) := by decide +kernel
theorem d_S_letIn_61 : decode c_S_letIn 61 = .ok (.iload_n 3, 1) := by decide +kernel
theorem d_S_letIn_62 : decode c_S_letIn 62 = .ok (.iconst 1, 1) := by decide +kernel
theorem d_S_letIn_63 : decode c_S_letIn 63 = .ok (.iload 4, 2) := by decide +kernel
theorem d_S_letIn_65 : decode c_S_letIn 65 = .ok (.ishl, 1) := by decide +kernel
theorem d_S_letIn_66 : decode c_S_letIn 66 = .ok (.ior, 1) := by decide +kernel
theorem d_S_letIn_67 : decode c_S_letIn 67 = .ok (.istore_n 3, 1) := by decide +kernel
theorem d_S_letIn_68 : decode c_S_letIn 68 = .ok (.iinc 4 1, 3) := by decide +kernel
theorem d_S_letIn_71 : decode c_S_letIn 71 = .ok (.goto (-66), 3) := by decide +kernel
theorem d_S_letIn_74 : decode c_S_letIn 74 = .ok (.iload_n 3, 1) := by decide +kernel
theorem d_S_letIn_75 : decode c_S_letIn 75 = .ok (.ireturn, 1) := by decide +kernel
theorem d_S_findNothing_0 : decode c_S_findNothing 0 = .ok (.aload_n 0, 1) := by decide +kernel
theorem d_S_findNothing_1 : decode c_S_findNothing 1 = .ok (.iconst 0, 1) := by decide +kernel
theorem d_S_findNothing_2 : decode c_S_findNothing 2 = .ok (.putfield 58, 3) := by decide +kernel
theorem d_S_findNothing_5 : decode c_S_findNothing 5 = .ok (.iconst 1, 1) := by decide +kernel
theorem d_S_findNothing_6 : decode c_S_findNothing 6 = .ok (.istore_n 1, 1) := by decide +kernel
theorem d_S_findNothing_7 : decode c_S_findNothing 7 = .ok (.iconst 0, 1) := by decide +kernel
theorem d_S_findNothing_8 : decode c_S_findNothing 8 = .ok (.istore_n 2, 1) := by decide +kernel
theorem d_S_findNothing_9 : decode c_S_findNothing 9 = .ok (.iload_n 2, 1) := by decide +kernel
theorem d_S_findNothing_10 : decode c_S_findNothing 10 = .ok (.bipush 16, 2) := by decide +kernel
theorem d_S_findNothing_12 : decode c_S_findNothing 12 = .ok (.if_icmp .gt 103, 3) := by decide +kernel
theorem d_S_findNothing_15 : decode c_S_findNothing 15 = .ok (.iload_n 1, 1) := by decide +kernel
theorem d_S_findNothing_16 : decode c_S_findNothing 16 = .ok (.ifCond .eq 99, 3) := by decide +kernel
theorem d_S_findNothing_19 : decode c_S_findNothing 19 = .ok (.aload_n 0, 1) := by decide +kernel
theorem d_S_findNothing_20 : decode c_S_findNothing 20 = .ok (.getfield 58, 3) := by decide +kernel
theorem d_S_findNothing_23 : decode c_S_findNothing 23 = .ok (.istore_n 3, 1) := by decide +kernel
theorem d_S_findNothing_24 : decode c_S_findNothing 24 = .ok (.iconst 0, 1) := by decide +kernel
theorem d_S_findNothing_25 : decode c_S_findNothing 25 = .ok (.istore 4, 2) := by decide +kernel
theorem d_S_findNothing_27 : decode c_S_findNothing 27 = .ok (.iload 4, 2) := by decide +kernel
theorem d_S_findNothing_29 : decode c_S_findNothing 29 = .ok (.aload_n 0, 1) := by decide +kernel
theorem d_S_findNothing_30 : decode c_S_findNothing 30 = .ok (.getfield 25, 3) := by decide +kernel
theorem d_S_findNothing_33 : decode c_S_findNothing 33 = .ok (.invokevirtual 83, 3) := by decide +kernel
theorem d_S_findNothing_36 : decode c_S_findNothing 36 = .ok (.if_icmp .ge 59, 3) := by decide +kernel
theorem d_S_findNothing_39 : decode c_S_findNothing 39 = .ok (.iconst 0, 1) := by decide +kernel
theorem d_S_findNothing_40 : decode c_S_findNothing 40 = .ok (.istore 5, 2) := by decide +kernel
theorem d_S_findNothing_42 : decode c_S_findNothing 42 = .ok (.iload 5, 2) := by decide +kernel
theorem d_S_findNothing_44 : decode c_S_findNothing 44 = .ok (.aload_n 0, 1) := by decide +kernel
theorem d_S_findNothing_45 : decode c_S_findNothing 45 = .ok (.getfield 25, 3) := by decide +kernel
theorem d_S_findNothing_48 : decode c_S_findNothing 48 = .ok (.iload 4, 2) := by decide +kernel
theorem d_S_findNothing_50 : decode c_S_findNothing 50 = .ok (.invokevirtual 65, 3) := by decide +kernel
theorem d_S_findNothing_53 : decode c_S_findNothing 53 = .ok (.if_icmp .ge 36, 3) := by decide +kernel
theorem d_S_findNothing_56 : decode c_S_findNothing 56 = .ok (.aload_n 0, 1) := by decide +kernel
theorem d_S_findNothing_57 : decode c_S_findNothing 57 = .ok (.iload 4, 2) := by decide +kernel
theorem d_S_findNothing_59 : decode c_S_findNothing 59 = .ok (.iload 5, 2) := by decide +kernel
theorem d_S_findNothing_61 : decode c_S_findNothing 61 = .ok (.invokestatic 71, 3) := by decide +kernel
theorem d_S_findNothing_64 : decode c_S_findNothing 64 = .ok (.invokevirtual 79, 3) := by decide +kernel
theorem d_S_findNothing_67 : decode c_S_findNothing 67 = .ok (.ifCond .eq 16, 3) := by decide +kernel
theorem d_S_findNothing_70 : decode c_S_findNothing 70 = .ok (.aload_n 0, 1) := by decide +kernel
theorem d_S_findNothing_71 : decode c_S_findNothing 71 = .ok (.dup, 1) := by decide +kernel
theorem d_S_findNothing_72 : decode c_S_findNothing 72 = .ok (.getfield 58, 3) := by decide +kernel
theorem d_S_findNothing_75 : decode c_S_findNothing 75 = .ok (.iconst 1, 1) := by decide +kernel
theorem d_S_findNothing_76 : decode c_S_findNothing 76 = .ok (.iload 4, 2) := by decide +kernel
theorem d_S_findNothing_78 : decode c_S_findNothing 78 = .ok (.ishl, 1) := by decide +kernel
theorem d_S_findNothing_79 : decode c_S_findNothing 79 = .ok (.ior, 1) := by decide +kernel
theorem d_S_findNothing_80 : decode c_S_findNothing 80 = .ok (.putfield 58, 3) := by decide +kernel
theorem d_S_findNothing_83 : decode c_S_findNothing 83 = .ok (.iinc 5 1, 3) := by decide +kernel
theorem d_S_findNothing_86 : decode c_S_findNothing 86 = .ok (.goto (-44), 3) := by decide +kernel
theorem d_S_findNothing_89 : decode c_S_findNothing 89 = .ok (.iinc 4 1, 3) := by decide +kernel
theorem d_S_findNothing_92 : decode c_S_findNothing 92 = .ok (.goto (-65), 3) := by decide +kernel
theorem d_S_findNothing_95 : decode c_S_findNothing 95 = .ok (.aload_n 0, 1) := by decide +kernel
theorem d_S_findNothing_96 : decode c_S_findNothing 96 = .ok (.getfield 58, 3) := by decide +kernel
theorem d_S_findNothing_99 : decode c_S_findNothing 99 = .ok (.iload_n 3, 1) := by decide +kernel
theorem d_S_findNothing_100 : decode c_S_findNothing 100 = .ok (.if_icmp .eq 7, 3) := by decide +kernel
theorem d_S_findNothing_103 : decode c_S_findNothing 103 = .ok (.iconst 1, 1) := by decide +kernel
theorem d_S_findNothing_104 : decode c_S_findNothing 104 = .ok (.goto 4, 3) := by decide +kernel
theorem d_S_findNothing_107 : decode c_S_findNothing 107 = .ok (.iconst 0, 1) := by decide +kernel
theorem d_S_findNothing_108 : decode c_S_findNothing 108 = .ok (.istore_n 1, 1) := by decide +kernel
theorem d_S_findNothing_109 : decode c_S_findNothing 109 = .ok (.iinc 2 1, 3) := by decide +kernel
theorem d_S_findNothing_112 : decode c_S_findNothing 112 = .ok (.goto (-103), 3) := by decide +kernel
theorem d_S_findNothing_115 : decode c_S_findNothing 115 = .ok (.return_, 1) := by decide +kernel
theorem d_S_rowIsNothing_0 : decode c_S_rowIsNothing 0 = .ok (.iconst 0, 1) := by decide +kernel
theorem d_S_rowIsNothing_1 : decode c_S_rowIsNothing 1 = .ok (.istore_n 2, 1) := by decide +kernel
theorem d_S_rowIsNothing_2 : decode c_S_rowIsNothing 2 = .ok (.iload_n 2, 1) := by decide +kernel
theorem d_S_rowIsNothing_3 : decode c_S_rowIsNothing 3 = .ok (.aload_n 0, 1) := by decide +kernel
theorem d_S_rowIsNothing_4 : decode c_S_rowIsNothing 4 = .ok (.getfield 25, 3) := by decide +kernel
theorem d_S_rowIsNothing_7 : decode c_S_rowIsNothing 7 = .ok (.iload_n 1, 1) := by decide +kernel
theorem d_S_rowIsNothing_8 : decode c_S_rowIsNothing 8 = .ok (.invokevirtual 87, 3) := by decide +kernel
theorem d_S_rowIsNothing_11 : decode c_S_rowIsNothing 11 = .ok (.if_icmp .ge 27, 3) := by decide +kernel
theorem d_S_rowIsNothing_14 : decode c_S_rowIsNothing 14 = .ok (.aload_n 0, 1) := by decide +kernel
theorem d_S_rowIsNothing_15 : decode c_S_rowIsNothing 15 = .ok (.aload_n 0, 1) := by decide +kernel
theorem d_S_rowIsNothing_16 : decode c_S_rowIsNothing 16 = .ok (.getfield 25, 3) := by decide +kernel
theorem d_S_rowIsNothing_19 : decode c_S_rowIsNothing 19 = .ok (.iload_n 1, 1) := by decide +kernel
theorem d_S_rowIsNothing_20 : decode c_S_rowIsNothing 20 = .ok (.iload_n 2, 1) := by decide +kernel
theorem d_S_rowIsNothing_21 : decode c_S_rowIsNothing 21 = .ok (.invokevirtual 90, 3) := by decide +kernel
theorem d_S_rowIsNothing_24 : decode c_S_rowIsNothing 24 = .ok (.invokevirtual 93, 3) := by decide +kernel
theorem d_S_rowIsNothing_27 : decode c_S_rowIsNothing 27 = .ok (.ifCond .ne 5, 3) := by decide +kernel
theorem d_S_rowIsNothing_30 : decode c_S_rowIsNothing 30 = .ok (.iconst 0, 1) := by decide +kernel
theorem d_S_rowIsNothing_31 : decode c_S_rowIsNothing 31 = .ok (.ireturn, 1) := by decide +kernel
theorem d_S_rowIsNothing_32 : decode c_S_rowIsNothing 32 = .ok (.iinc 2 1, 3) := by decide +kernel
theorem d_S_rowIsNothing_35 : decode c_S_rowIsNothing 35 = .ok (.goto (-33), 3) := by decide +kernel
theorem d_S_rowIsNothing_38 : decode c_S_rowIsNothing 38 = .ok (.iconst 1, 1) := by decide +kernel
theorem d_S_rowIsNothing_39 : decode c_S_rowIsNothing 39 = .ok (.ireturn, 1) := by decide +kernel
theorem d_S_symbolIsNothing_0 : decode c_S_symbolIsNothing 0 = .ok (.iload_n 1, 1) := by decide +kernel
theorem d_S_symbolIsNothing_1 : decode c_S_symbolIsNothing 1 = .ok (.invokestatic 96, 3) := by decide +kernel
theorem d_S_symbolIsNothing_4 : decode c_S_symbolIsNothing 4 = .ok (.ifCond .ne 22, 3) := by decide +kernel
theorem d_S_symbolIsNothing_7 : decode c_S_symbolIsNothing 7 = .ok (.aload_n 0, 1) := by decide +kernel
theorem d_S_symbolIsNothing_8 : decode c_S_symbolIsNothing 8 = .ok (.getfield 58, 3) := by decide +kernel
theorem d_S_symbolIsNothing_11 : decode c_S_symbolIsNothing 11 = .ok (.i2l, 1) := by decide +kernel
theorem d_S_symbolIsNothing_12 : decode c_S_symbolIsNothing 12 = .ok (.iload_n 1, 1) := by decide +kernel
theorem d_S_symbolIsNothing_13 : decode c_S_symbolIsNothing 13 = .ok (.invokestatic 99, 3) := by decide +kernel
theorem d_S_symbolIsNothing_16 : decode c_S_symbolIsNothing 16 = .ok (.invokestatic 61, 3) := by decide +kernel
theorem d_S_symbolIsNothing_19 : decode c_S_symbolIsNothing 19 = .ok (.ifCond .eq 7, 3) := by decide +kernel
theorem d_S_symbolIsNothing_22 : decode c_S_symbolIsNothing 22 = .ok (.iconst 1, 1) := by decide +kernel
theorem d_S_symbolIsNothing_23 : decode c_S_symbolIsNothing 23 = .ok (.goto 4, 3) := by decide +kernel
theorem d_S_symbolIsNothing_26 : decode c_S_symbolIsNothing 26 = .ok (.iconst 0, 1) := by decide +kernel
theorem d_S_symbolIsNothing_27 : decode c_S_symbolIsNothing 27 = .ok (.ireturn, 1) := by decide +kernel
theorem d_S_findLeft_0 : decode c_S_findLeft 0 = .ok (.iconst 0, 1) := by decide +kernel
theorem d_S_findLeft_1 : decode c_S_findLeft 1 = .ok (.istore_n 1, 1) := by decide +kernel
theorem d_S_findLeft_2 : decode c_S_findLeft 2 = .ok (.iload_n 1, 1) := by decide +kernel
theorem d_S_findLeft_3 : decode c_S_findLeft 3 = .ok (.aload_n 0, 1) := by decide +kernel
theorem d_S_findLeft_4 : decode c_S_findLeft 4 = .ok (.getfield 25, 3) := by decide +kernel
theorem d_S_findLeft_7 : decode c_S_findLeft 7 = .ok (.invokevirtual 83, 3) := by decide +kernel
theorem d_S_findLeft_10 : decode c_S_findLeft 10 = .ok (.if_icmp .ge 54, 3) := by decide +kernel
theorem d_S_findLeft_13 : decode c_S_findLeft 13 = .ok (.aload_n 0, 1) := by decide +kernel
theorem d_S_findLeft_14 : decode c_S_findLeft 14 = .ok (.getfield 9, 3) := by decide +kernel
theorem d_S_findLeft_17 : decode c_S_findLeft 17 = .ok (.iload_n 1, 1) := by decide +kernel
theorem d_S_findLeft_18 : decode c_S_findLeft 18 = .ok (.iconst 0, 1) := by decide +kernel
theorem d_S_findLeft_19 : decode c_S_findLeft 19 = .ok (.iastore, 1) := by decide +kernel
theorem d_S_findLeft_20 : decode c_S_findLeft 20 = .ok (.iconst 0, 1) := by decide +kernel
theorem d_S_findLeft_21 : decode c_S_findLeft 21 = .ok (.istore_n 2, 1) := by decide +kernel
theorem d_S_findLeft_22 : decode c_S_findLeft 22 = .ok (.iload_n 2, 1) := by decide +kernel
theorem d_S_findLeft_23 : decode c_S_findLeft 23 = .ok (.aload_n 0, 1) := by decide +kernel
theorem d_S_findLeft_24 : decode c_S_findLeft 24 = .ok (.getfield 25, 3) := by decide +kernel
theorem d_S_findLeft_27 : decode c_S_findLeft 27 = .ok (.iload_n 1, 1) := by decide +kernel
theorem d_S_findLeft_28 : decode c_S_findLeft 28 = .ok (.invokevirtual 65, 3) := by decide +kernel
theorem d_S_findLeft_31 : decode c_S_findLeft 31 = .ok (.if_icmp .ge 27, 3) := by decide +kernel
theorem d_S_findLeft_34 : decode c_S_findLeft 34 = .ok (.aload_n 0, 1) := by decide +kernel
theorem d_S_findLeft_35 : decode c_S_findLeft 35 = .ok (.getfield 9, 3) := by decide +kernel
theorem d_S_findLeft_38 : decode c_S_findLeft 38 = .ok (.iload_n 1, 1) := by decide +kernel
theorem d_S_findLeft_39 : decode c_S_findLeft 39 = .ok (.dup2, 1) := by decide +kernel
theorem d_S_findLeft_40 : decode c_S_findLeft 40 = .ok (.iaload, 1) := by decide +kernel
theorem d_S_findLeft_41 : decode c_S_findLeft 41 = .ok (.aload_n 0, 1) := by decide +kernel
theorem d_S_findLeft_42 : decode c_S_findLeft 42 = .ok (.iload_n 1, 1) := by decide +kernel
theorem d_S_findLeft_43 : decode c_S_findLeft 43 = .ok (.iload_n 2, 1) := by decide +kernel
theorem d_S_findLeft_44 : decode c_S_findLeft 44 = .ok (.invokestatic 71, 3) := by decide +kernel
theorem d_S_findLeft_47 : decode c_S_findLeft 47 = .ok (.invokevirtual 102, 3) := by decide +kernel
theorem d_S_findLeft_50 : decode c_S_findLeft 50 = .ok (.ior, 1) := by decide +kernel
theorem d_S_findLeft_51 : decode c_S_findLeft 51 = .ok (.iastore, 1) := by decide +kernel
theorem d_S_findLeft_52 : decode c_S_findLeft 52 = .ok (.iinc 2 1, 3) := by decide +kernel
theorem d_S_findLeft_55 : decode c_S_findLeft 55 = .ok (.goto (-33), 3) := by decide +kernel
theorem d_S_findLeft_58 : decode c_S_findLeft 58 = .ok (.iinc 1 1, 3) := by decide +kernel
theorem d_S_findLeft_61 : decode c_S_findLeft 61 = .ok (.goto (-59), 3) := by decide +kernel
theorem d_S_findLeft_64 : decode c_S_findLeft 64 = .ok (.iconst 0, 1) := by decide +kernel
theorem d_S_findLeft_65 : decode c_S_findLeft 65 = .ok (.istore_n 1, 1) := by decide +kernel
theorem d_S_findLeft_66 : decode c_S_findLeft 66 = .ok (.iload_n 1, 1) := by decide +kernel
theorem d_S_findLeft_67 : decode c_S_findLeft 67 = .ok (.aload_n 0, 1) := by decide +kernel
theorem d_S_findLeft_68 : decode c_S_findLeft 68 = .ok (.getfield 25, 3) := by decide +kernel
theorem d_S_findLeft_71 : decode c_S_findLeft 71 = .ok (.invokevirtual 83, 3) := by decide +kernel
theorem d_S_findLeft_74 : decode c_S_findLeft 74 = .ok (.if_icmp .ge 57, 3) := by decide +kernel
theorem d_S_findLeft_77 : decode c_S_findLeft 77 = .ok (.iconst 0, 1) := by decide +kernel
theorem d_S_findLeft_78 : decode c_S_findLeft 78 = .ok (.istore_n 2, 1) := by decide +kernel
theorem d_S_findLeft_79 : decode c_S_findLeft 79 = .ok (.iload_n 2, 1) := by decide +kernel
theorem d_S_findLeft_80 : decode c_S_findLeft 80 = .ok (.aload_n 0, 1) := by decide +kernel
theorem d_S_findLeft_81 : decode c_S_findLeft 81 = .ok (.getfield 25, 3) := by decide +kernel
theorem d_S_findLeft_84 : decode c_S_findLeft 84 = .ok (.invokevirtual 83, 3) := by decide +kernel
theorem d_S_findLeft_87 : decode c_S_findLeft 87 = .ok (.if_icmp .ge 38, 3) := by decide +kernel
theorem d_S_findLeft_90 : decode c_S_findLeft 90 = .ok (.aload_n 0, 1) := by decide +kernel
theorem d_S_findLeft_91 : decode c_S_findLeft 91 = .ok (.getfield 9, 3) := by decide +kernel
theorem d_S_findLeft_94 : decode c_S_findLeft 94 = .ok (.iload_n 2, 1) := by decide +kernel
theorem d_S_findLeft_95 : decode c_S_findLeft 95 = .ok (.iaload, 1) := by decide +kernel
theorem d_S_findLeft_96 : decode c_S_findLeft 96 = .ok (.i2l, 1) := by decide +kernel
theorem d_S_findLeft_97 : decode c_S_findLeft 97 = .ok (.iload_n 1, 1) := by decide +kernel
theorem d_S_findLeft_98 : decode c_S_findLeft 98 = .ok (.invokestatic 61, 3) := by decide +kernel
theorem d_S_findLeft_101 : decode c_S_findLeft 101 = .ok (.ifCond .eq 18, 3) := by decide +kernel
theorem d_S_findLeft_104 : decode c_S_findLeft 104 = .ok (.aload_n 0, 1) := by decide +kernel
theorem d_S_findLeft_105 : decode c_S_findLeft 105 = .ok (.getfield 9, 3) := by decide +kernel
theorem d_S_findLeft_108 : decode c_S_findLeft 108 = .ok (.iload_n 2, 1) := by decide +kernel
theorem d_S_findLeft_109 : decode c_S_findLeft 109 = .ok (.dup2, 1) := by decide +kernel
theorem d_S_findLeft_110 : decode c_S_findLeft 110 = .ok (.iaload, 1) := by decide +kernel
theorem d_S_findLeft_111 : decode c_S_findLeft 111 = .ok (.aload_n 0, 1) := by decide +kernel
theorem d_S_findLeft_112 : decode c_S_findLeft 112 = .ok (.getfield 9, 3) := by decide +kernel
theorem d_S_findLeft_115 : decode c_S_findLeft 115 = .ok (.iload_n 1, 1) := by decide +kernel
theorem d_S_findLeft_116 : decode c_S_findLeft 116 = .ok (.iaload, 1) := by decide +kernel
theorem d_S_findLeft_117 : decode c_S_findLeft 117 = .ok (.ior, 1) := by decide +kernel
theorem d_S_findLeft_118 : decode c_S_findLeft 118 = .ok (.iastore, 1) := by decide +kernel
theorem d_S_findLeft_119 : decode c_S_findLeft 119 = .ok (.iinc 2 1, 3) := by decide +kernel
theorem d_S_findLeft_122 : decode c_S_findLeft 122 = .ok (.goto (-43), 3) := by decide +kernel
theorem d_S_findLeft_125 : decode c_S_findLeft 125 = .ok (.iinc 1 1, 3) := by decide +kernel
theorem d_S_findLeft_128 : decode c_S_findLeft 128 = .ok (.goto (-62), 3) := by decide +kernel
theorem d_S_findLeft_131 : decode c_S_findLeft 131 = .ok (.return_, 1) := by decide +kernel
theorem d_S_rulesAtLeft_0 : decode c_S_rulesAtLeft 0 = .ok (.iconst 0, 1) := by decide +kernel
theorem d_S_rulesAtLeft_1 : decode c_S_rulesAtLeft 1 = .ok (.istore_n 2, 1) := by decide +kernel
theorem d_S_rulesAtLeft_2 : decode c_S_rulesAtLeft 2 = .ok (.iconst 0, 1) := by decide +kernel
theorem d_S_rulesAtLeft_3 : decode c_S_rulesAtLeft 3 = .ok (.istore_n 3, 1) := by decide +kernel
theorem d_S_rulesAtLeft_4 : decode c_S_rulesAtLeft 4 = .ok (.iload_n 3, 1) := by decide +kernel
theorem d_S_rulesAtLeft_5 : decode c_S_rulesAtLeft 5 = .ok (.aload_n 0, 1) := by decide +kernel
theorem d_S_rulesAtLeft_6 : decode c_S_rulesAtLeft 6 = .ok (.getfield 25, 3) := by decide +kernel
theorem d_S_rulesAtLeft_9 : decode c_S_rulesAtLeft 9 = .ok (.iload_n 1, 1) := by decide +kernel
theorem d_S_rulesAtLeft_10 : decode c_S_rulesAtLeft 10 = .ok (.invokevirtual 87, 3) := by decide +kernel
theorem d_S_rulesAtLeft_13 : decode c_S_rulesAtLeft 13 = .ok (.if_icmp .ge 50, 3) := by decide +kernel
theorem d_S_rulesAtLeft_16 : decode c_S_rulesAtLeft 16 = .ok (.aload_n 0, 1) := by decide +kernel
theorem d_S_rulesAtLeft_17 : decode c_S_rulesAtLeft 17 = .ok (.getfield 25, 3) := by decide +kernel
theorem d_S_rulesAtLeft_20 : decode c_S_rulesAtLeft 20 = .ok (.iload_n 1, 1) := by decide +kernel
theorem d_S_rulesAtLeft_21 : decode c_S_rulesAtLeft 21 = .ok (.iload_n 3, 1) := by decide +kernel
theorem d_S_rulesAtLeft_22 : decode c_S_rulesAtLeft 22 = .ok (.invokevirtual 90, 3) := by decide +kernel
theorem d_S_rulesAtLeft_25 : decode c_S_rulesAtLeft 25 = .ok (.istore 4, 2) := by decide +kernel
theorem d_S_rulesAtLeft_27 : decode c_S_rulesAtLeft 27 = .ok (.iload 4, 2) := by decide +kernel
theorem d_S_rulesAtLeft_29 : decode c_S_rulesAtLeft 29 = .ok (.invokestatic 96, 3) := by decide +kernel
theorem d_S_rulesAtLeft_32 : decode c_S_rulesAtLeft 32 = .ok (.ifCond .ne 13, 3) := by decide +kernel
theorem d_S_rulesAtLeft_35 : decode c_S_rulesAtLeft 35 = .ok (.iload_n 2, 1) := by decide +kernel
theorem d_S_rulesAtLeft_36 : decode c_S_rulesAtLeft 36 = .ok (.iconst 1, 1) := by decide +kernel
theorem d_S_rulesAtLeft_37 : decode c_S_rulesAtLeft 37 = .ok (.iload 4, 2) := by decide +kernel
theorem d_S_rulesAtLeft_39 : decode c_S_rulesAtLeft 39 = .ok (.invokestatic 99, 3) := by decide +kernel
theorem d_S_rulesAtLeft_42 : decode c_S_rulesAtLeft 42 = .ok (.ishl, 1) := by decide +kernel
theorem d_S_rulesAtLeft_43 : decode c_S_rulesAtLeft 43 = .ok (.ior, 1) := by decide +kernel
theorem d_S_rulesAtLeft_44 : decode c_S_rulesAtLeft 44 = .ok (.istore_n 2, 1) := by decide +kernel
theorem d_S_rulesAtLeft_45 : decode c_S_rulesAtLeft 45 = .ok (.aload_n 0, 1) := by decide +kernel
theorem d_S_rulesAtLeft_46 : decode c_S_rulesAtLeft 46 = .ok (.iload 4, 2) := by decide +kernel
theorem d_S_rulesAtLeft_48 : decode c_S_rulesAtLeft 48 = .ok (.invokevirtual 93, 3) := by decide +kernel
theorem d_S_rulesAtLeft_51 : decode c_S_rulesAtLeft 51 = .ok (.ifCond .ne 6, 3) := by decide +kernel
theorem d_S_rulesAtLeft_54 : decode c_S_rulesAtLeft 54 = .ok (.goto 9, 3) := by decide +kernel
theorem d_S_rulesAtLeft_57 : decode c_S_rulesAtLeft 57 = .ok (.iinc 3 1, 3) := by decide +kernel
theorem d_S_rulesAtLeft_60 : decode c_S_rulesAtLeft 60 = .ok (.goto (-56), 3) := by decide +kernel
theorem d_S_rulesAtLeft_63 : decode c_S_rulesAtLeft 63 = .ok (.iload_n 2, 1) := by decide +kernel
theorem d_S_rulesAtLeft_64 : decode c_S_rulesAtLeft 64 = .ok (.ireturn, 1) := by decide +kernel
theorem d_S_findFault_0 : decode c_S_findFault 0 = .ok (.aload_n 0, 1) := by decide +kernel
theorem d_S_findFault_1 : decode c_S_findFault 1 = .ok (.aload_n 0, 1) := by decide +kernel
theorem d_S_findFault_2 : decode c_S_findFault 2 = .ok (.getfield 25, 3) := by decide +kernel
theorem d_S_findFault_5 : decode c_S_findFault 5 = .ok (.invokevirtual 83, 3) := by decide +kernel
theorem d_S_findFault_8 : decode c_S_findFault 8 = .ok (.ifCond .ne 7, 3) := by decide +kernel
theorem d_S_findFault_11 : decode c_S_findFault 11 = .ok (.iconst 1, 1) := by decide +kernel
theorem d_S_findFault_12 : decode c_S_findFault 12 = .ok (.goto 4, 3) := by decide +kernel
theorem d_S_findFault_15 : decode c_S_findFault 15 = .ok (.iconst 0, 1) := by decide +kernel
theorem d_S_findFault_16 : decode c_S_findFault 16 = .ok (.putfield 42, 3) := by decide +kernel
theorem d_S_findFault_19 : decode c_S_findFault 19 = .ok (.aload_n 0, 1) := by decide +kernel
theorem d_S_findFault_20 : decode c_S_findFault 20 = .ok (.iconst (-1), 1) := by decide +kernel
theorem d_S_findFault_21 : decode c_S_findFault 21 = .ok (.putfield 55, 3) := by decide +kernel
theorem d_S_findFault_24 : decode c_S_findFault 24 = .ok (.iconst 2, 1) := by decide +kernel
theorem d_S_findFault_25 : decode c_S_findFault 25 = .ok (.istore_n 1, 1) := by decide +kernel
theorem d_S_findFault_26 : decode c_S_findFault 26 = .ok (.iload_n 1, 1) := by decide +kernel
theorem d_S_findFault_27 : decode c_S_findFault 27 = .ok (.iconst 4, 1) := by decide +kernel
theorem d_S_findFault_28 : decode c_S_findFault 28 = .ok (.if_icmp .gt 55, 3) := by decide +kernel
theorem d_S_findFault_31 : decode c_S_findFault 31 = .ok (.aload_n 0, 1) := by decide +kernel
theorem d_S_findFault_32 : decode c_S_findFault 32 = .ok (.getfield 42, 3) := by decide +kernel
theorem d_S_findFault_35 : decode c_S_findFault 35 = .ok (.ifCond .ne 48, 3) := by decide +kernel
theorem d_S_findFault_38 : decode c_S_findFault 38 = .ok (.aload_n 0, 1) := by decide +kernel
theorem d_S_findFault_39 : decode c_S_findFault 39 = .ok (.getfield 25, 3) := by decide +kernel
theorem d_S_findFault_42 : decode c_S_findFault 42 = .ok (.invokevirtual 83, 3) := by decide +kernel
theorem d_S_findFault_45 : decode c_S_findFault 45 = .ok (.iconst 1, 1) := by decide +kernel
theorem d_S_findFault_46 : decode c_S_findFault 46 = .ok (.isub, 1) := by decide +kernel
theorem d_S_findFault_47 : decode c_S_findFault 47 = .ok (.istore_n 2, 1) := by decide +kernel
theorem d_S_findFault_48 : decode c_S_findFault 48 = .ok (.iload_n 2, 1) := by decide +kernel
theorem d_S_findFault_49 : decode c_S_findFault 49 = .ok (.ifCond .lt 28, 3) := by decide +kernel
theorem d_S_findFault_52 : decode c_S_findFault 52 = .ok (.aload_n 0, 1) := by decide +kernel
theorem d_S_findFault_53 : decode c_S_findFault 53 = .ok (.iload_n 2, 1) := by decide +kernel
theorem d_S_findFault_54 : decode c_S_findFault 54 = .ok (.iload_n 1, 1) := by decide +kernel
theorem d_S_findFault_55 : decode c_S_findFault 55 = .ok (.invokevirtual 105, 3) := by decide +kernel
theorem d_S_findFault_58 : decode c_S_findFault 58 = .ok (.ifCond .eq 13, 3) := by decide +kernel
theorem d_S_findFault_61 : decode c_S_findFault 61 = .ok (.aload_n 0, 1) := by decide +kernel
theorem d_S_findFault_62 : decode c_S_findFault 62 = .ok (.iload_n 1, 1) := by decide +kernel
theorem d_S_findFault_63 : decode c_S_findFault 63 = .ok (.putfield 42, 3) := by decide +kernel
theorem d_S_findFault_66 : decode c_S_findFault 66 = .ok (.aload_n 0, 1) := by decide +kernel
theorem d_S_findFault_67 : decode c_S_findFault 67 = .ok (.iload_n 2, 1) := by decide +kernel
theorem d_S_findFault_68 : decode c_S_findFault 68 = .ok (.putfield 55, 3) := by decide +kernel
theorem d_S_findFault_71 : decode c_S_findFault 71 = .ok (.iinc 2 (-1), 3) := by decide +kernel
theorem d_S_findFault_74 : decode c_S_findFault 74 = .ok (.goto (-26), 3) := by decide +kernel
theorem d_S_findFault_77 : decode c_S_findFault 77 = .ok (.iinc 1 1, 3) := by decide +kernel
theorem d_S_findFault_80 : decode c_S_findFault 80 = .ok (.goto (-54), 3) := by decide +kernel
theorem d_S_findFault_83 : decode c_S_findFault 83 = .ok (.return_, 1) := by decide +kernel
theorem d_S_hasFault_0 : decode c_S_hasFault 0 = .ok (.iload_n 2, 1) := by decide +kernel
theorem d_S_hasFault_1 : decode c_S_hasFault 1 = .ok (.iconst 2, 1) := by decide +kernel
theorem d_S_hasFault_2 : decode c_S_hasFault 2 = .ok (.if_icmp .ne 9, 3) := by decide +kernel
theorem d_S_hasFault_5 : decode c_S_hasFault 5 = .ok (.aload_n 0, 1) := by decide +kernel
theorem d_S_hasFault_6 : decode c_S_hasFault 6 = .ok (.iload_n 1, 1) := by decide +kernel
theorem d_S_hasFault_7 : decode c_S_hasFault 7 = .ok (.invokevirtual 109, 3) := by decide +kernel
theorem d_S_hasFault_10 : decode c_S_hasFault 10 = .ok (.ireturn, 1) := by decide +kernel
theorem d_S_hasFault_11 : decode c_S_hasFault 11 = .ok (.iload_n 2, 1) := by decide +kernel
theorem d_S_hasFault_12 : decode c_S_hasFault 12 = .ok (.iconst 3, 1) := by decide +kernel
theorem d_S_hasFault_13 : decode c_S_hasFault 13 = .ok (.if_icmp .ne 20, 3) := by decide +kernel
theorem d_S_hasFault_16 : decode c_S_hasFault 16 = .ok (.aload_n 0, 1) := by decide +kernel
theorem d_S_hasFault_17 : decode c_S_hasFault 17 = .ok (.getfield 25, 3) := by decide +kernel
theorem d_S_hasFault_20 : decode c_S_hasFault 20 = .ok (.iload_n 1, 1) := by decide +kernel
theorem d_S_hasFault_21 : decode c_S_hasFault 21 = .ok (.invokevirtual 65, 3) := by decide +kernel
theorem d_S_hasFault_24 : decode c_S_hasFault 24 = .ok (.ifCond .ne 7, 3) := by decide +kernel
theorem d_S_hasFault_27 : decode c_S_hasFault 27 = .ok (.iconst 1, 1) := by decide +kernel
theorem d_S_hasFault_28 : decode c_S_hasFault 28 = .ok (.goto 4, 3) := by decide +kernel
theorem d_S_hasFault_31 : decode c_S_hasFault 31 = .ok (.iconst 0, 1) := by decide +kernel
theorem d_S_hasFault_32 : decode c_S_hasFault 32 = .ok (.ireturn, 1) := by decide +kernel
theorem d_S_hasFault_33 : decode c_S_hasFault 33 = .ok (.aload_n 0, 1) := by decide +kernel
theorem d_S_hasFault_34 : decode c_S_hasFault 34 = .ok (.getfield 9, 3) := by decide +kernel
theorem d_S_hasFault_37 : decode c_S_hasFault 37 = .ok (.iload_n 1, 1) := by decide +kernel
theorem d_S_hasFault_38 : decode c_S_hasFault 38 = .ok (.iaload, 1) := by decide +kernel
theorem d_S_hasFault_39 : decode c_S_hasFault 39 = .ok (.i2l, 1) := by decide +kernel
theorem d_S_hasFault_40 : decode c_S_hasFault 40 = .ok (.iload_n 1, 1) := by decide +kernel
theorem d_S_hasFault_41 : decode c_S_hasFault 41 = .ok (.invokestatic 61, 3) := by decide +kernel
theorem d_S_hasFault_44 : decode c_S_hasFault 44 = .ok (.ireturn, 1) := by decide +kernel
theorem d_S_hasSymbolNotThere_0 : decode c_S_hasSymbolNotThere 0 = .ok (.iconst 0, 1) := by decide +kernel
theorem d_S_hasSymbolNotThere_1 : decode c_S_hasSymbolNotThere 1 = .ok (.istore_n 2, 1) := by decide +kernel
theorem d_S_hasSymbolNotThere_2 : decode c_S_hasSymbolNotThere 2 = .ok (.iload_n 2, 1) := by decide +kernel
theorem d_S_hasSymbolNotThere_3 : decode c_S_hasSymbolNotThere 3 = .ok (.aload_n 0, 1) := by decide +kernel
theorem d_S_hasSymbolNotThere_4 : decode c_S_hasSymbolNotThere 4 = .ok (.getfield 25, 3) := by decide +kernel
theorem d_S_hasSymbolNotThere_7 : decode c_S_hasSymbolNotThere 7 = .ok (.iload_n 1, 1) := by decide +kernel
theorem d_S_hasSymbolNotThere_8 : decode c_S_hasSymbolNotThere 8 = .ok (.invokevirtual 65, 3) := by decide +kernel
theorem d_S_hasSymbolNotThere_11 : decode c_S_hasSymbolNotThere 11 = .ok (.if_icmp .ge 62, 3) := by decide +kernel
theorem d_S_hasSymbolNotThere_14 : decode c_S_hasSymbolNotThere 14 = .ok (.iload_n 1, 1) := by decide +kernel
theorem d_S_hasSymbolNotThere_15 : decode c_S_hasSymbolNotThere 15 = .ok (.iload_n 2, 1) := by decide +kernel
theorem d_S_hasSymbolNotThere_16 : decode c_S_hasSymbolNotThere 16 = .ok (.invokestatic 71, 3) := by decide +kernel
theorem d_S_hasSymbolNotThere_19 : decode c_S_hasSymbolNotThere 19 = .ok (.istore_n 3, 1) := by decide +kernel
theorem d_S_hasSymbolNotThere_20 : decode c_S_hasSymbolNotThere 20 = .ok (.iconst 0, 1) := by decide +kernel
theorem d_S_hasSymbolNotThere_21 : decode c_S_hasSymbolNotThere 21 = .ok (.istore 4, 2) := by decide +kernel
theorem d_S_hasSymbolNotThere_23 : decode c_S_hasSymbolNotThere 23 = .ok (.iload 4, 2) := by decide +kernel
theorem d_S_hasSymbolNotThere_25 : decode c_S_hasSymbolNotThere 25 = .ok (.aload_n 0, 1) := by decide +kernel
theorem d_S_hasSymbolNotThere_26 : decode c_S_hasSymbolNotThere 26 = .ok (.getfield 25, 3) := by decide +kernel
theorem d_S_hasSymbolNotThere_29 : decode c_S_hasSymbolNotThere 29 = .ok (.iload_n 3, 1) := by decide +kernel
theorem d_S_hasSymbolNotThere_30 : decode c_S_hasSymbolNotThere 30 = .ok (.invokevirtual 87, 3) := by decide +kernel
theorem d_S_hasSymbolNotThere_33 : decode c_S_hasSymbolNotThere 33 = .ok (.if_icmp .ge 34, 3) := by decide +kernel
theorem d_S_hasSymbolNotThere_36 : decode c_S_hasSymbolNotThere 36 = .ok (.aload_n 0, 1) := by decide +kernel
theorem d_S_hasSymbolNotThere_37 : decode c_S_hasSymbolNotThere 37 = .ok (.getfield 25, 3) := by decide +kernel
theorem d_S_hasSymbolNotThere_40 : decode c_S_hasSymbolNotThere 40 = .ok (.iload_n 3, 1) := by decide +kernel
theorem d_S_hasSymbolNotThere_41 : decode c_S_hasSymbolNotThere 41 = .ok (.iload 4, 2) := by decide +kernel
theorem d_S_hasSymbolNotThere_43 : decode c_S_hasSymbolNotThere 43 = .ok (.invokevirtual 90, 3) := by decide +kernel
theorem d_S_hasSymbolNotThere_46 : decode c_S_hasSymbolNotThere 46 = .ok (.invokestatic 99, 3) := by decide +kernel
theorem d_S_hasSymbolNotThere_49 : decode c_S_hasSymbolNotThere 49 = .ok (.aload_n 0, 1) := by decide +kernel
theorem d_S_hasSymbolNotThere_50 : decode c_S_hasSymbolNotThere 50 = .ok (.getfield 25, 3) := by decide +kernel
theorem d_S_hasSymbolNotThere_53 : decode c_S_hasSymbolNotThere 53 = .ok (.invokevirtual 83, 3) := by decide +kernel
theorem d_S_hasSymbolNotThere_56 : decode c_S_hasSymbolNotThere 56 = .ok (.if_icmp .lt 5, 3) := by decide +kernel
theorem d_S_hasSymbolNotThere_59 : decode c_S_hasSymbolNotThere 59 = .ok (.iconst 1, 1) := by decide +kernel
theorem d_S_hasSymbolNotThere_60 : decode c_S_hasSymbolNotThere 60 = .ok (.ireturn, 1) := by decide +kernel
theorem d_S_hasSymbolNotThere_61 : decode c_S_hasSymbolNotThere 61 = .ok (.iinc 4 1, 3) := by decide +kernel
theorem d_S_hasSymbolNotThere_64 : decode c_S_hasSymbolNotThere 64 = .ok (.goto (-41), 3) := by decide +kernel
theorem d_S_hasSymbolNotThere_67 : decode c_S_hasSymbolNotThere 67 = .ok (.iinc 2 1, 3) := by decide +kernel
theorem d_S_hasSymbolNotThere_70 : decode c_S_hasSymbolNotThere 70 = .ok (.goto (-68), 3) := by decide +kernel
theorem d_S_hasSymbolNotThere_73 : decode c_S_hasSymbolNotThere 73 = .ok (.iconst 0, 1) := by decide +kernel
theorem d_S_hasSymbolNotThere_74 : decode c_S_hasSymbolNotThere 74 = .ok (.ireturn, 1) := by decide +kernel
theorem d_S_findOrder_0 : decode c_S_findOrder 0 = .ok (.iconst 0, 1) := by decide +kernel
theorem d_S_findOrder_1 : decode c_S_findOrder 1 = .ok (.istore_n 1, 1) := by decide +kernel
theorem d_S_findOrder_2 : decode c_S_findOrder 2 = .ok (.iconst 0, 1) := by decide +kernel
theorem d_S_findOrder_3 : decode c_S_findOrder 3 = .ok (.istore_n 2, 1) := by decide +kernel
theorem d_S_findOrder_4 : decode c_S_findOrder 4 = .ok (.iload_n 2, 1) := by decide +kernel
theorem d_S_findOrder_5 : decode c_S_findOrder 5 = .ok (.bipush 16, 2) := by decide +kernel
theorem d_S_findOrder_7 : decode c_S_findOrder 7 = .ok (.if_icmp .ge 51, 3) := by decide +kernel
theorem d_S_findOrder_10 : decode c_S_findOrder 10 = .ok (.iconst 0, 1) := by decide +kernel
theorem d_S_findOrder_11 : decode c_S_findOrder 11 = .ok (.istore_n 3, 1) := by decide +kernel
theorem d_S_findOrder_12 : decode c_S_findOrder 12 = .ok (.iload_n 3, 1) := by decide +kernel
theorem d_S_findOrder_13 : decode c_S_findOrder 13 = .ok (.aload_n 0, 1) := by decide +kernel
theorem d_S_findOrder_14 : decode c_S_findOrder 14 = .ok (.getfield 25, 3) := by decide +kernel
theorem d_S_findOrder_17 : decode c_S_findOrder 17 = .ok (.invokevirtual 83, 3) := by decide +kernel
theorem d_S_findOrder_20 : decode c_S_findOrder 20 = .ok (.if_icmp .ge 32, 3) := by decide +kernel
theorem d_S_findOrder_23 : decode c_S_findOrder 23 = .ok (.aload_n 0, 1) := by decide +kernel
theorem d_S_findOrder_24 : decode c_S_findOrder 24 = .ok (.getfield 9, 3) := by decide +kernel
theorem d_S_findOrder_27 : decode c_S_findOrder 27 = .ok (.iload_n 3, 1) := by decide +kernel
theorem d_S_findOrder_28 : decode c_S_findOrder 28 = .ok (.iaload, 1) := by decide +kernel
theorem d_S_findOrder_29 : decode c_S_findOrder 29 = .ok (.invokestatic 112, 3) := by decide +kernel
theorem d_S_findOrder_32 : decode c_S_findOrder 32 = .ok (.iload_n 2, 1) := by decide +kernel
theorem d_S_findOrder_33 : decode c_S_findOrder 33 = .ok (.if_icmp .ne 13, 3) := by decide +kernel
theorem d_S_findOrder_36 : decode c_S_findOrder 36 = .ok (.aload_n 0, 1) := by decide +kernel
theorem d_S_findOrder_37 : decode c_S_findOrder 37 = .ok (.getfield 15, 3) := by decide +kernel
theorem d_S_findOrder_40 : decode c_S_findOrder 40 = .ok (.iload_n 1, 1) := by decide +kernel
theorem d_S_findOrder_41 : decode c_S_findOrder 41 = .ok (.iload_n 3, 1) := by decide +kernel
theorem d_S_findOrder_42 : decode c_S_findOrder 42 = .ok (.iastore, 1) := by decide +kernel
theorem d_S_findOrder_43 : decode c_S_findOrder 43 = .ok (.iinc 1 1, 3) := by decide +kernel
theorem d_S_findOrder_46 : decode c_S_findOrder 46 = .ok (.iinc 3 1, 3) := by decide +kernel
theorem d_S_findOrder_49 : decode c_S_findOrder 49 = .ok (.goto (-37), 3) := by decide +kernel
theorem d_S_findOrder_52 : decode c_S_findOrder 52 = .ok (.iinc 2 1, 3) := by decide +kernel
theorem d_S_findOrder_55 : decode c_S_findOrder 55 = .ok (.goto (-51), 3) := by decide +kernel
theorem d_S_findOrder_58 : decode c_S_findOrder 58 = .ok (.return_, 1) := by decide +kernel
theorem d_S_findFirsts_0 : decode c_S_findFirsts 0 = .ok (.iconst 0, 1) := by decide +kernel
theorem d_S_findFirsts_1 : decode c_S_findFirsts 1 = .ok (.istore_n 1, 1) := by decide +kernel
theorem d_S_findFirsts_2 : decode c_S_findFirsts 2 = .ok (.iload_n 1, 1) := by decide +kernel
theorem d_S_findFirsts_3 : decode c_S_findFirsts 3 = .ok (.aload_n 0, 1) := by decide +kernel
theorem d_S_findFirsts_4 : decode c_S_findFirsts 4 = .ok (.getfield 25, 3) := by decide +kernel
theorem d_S_findFirsts_7 : decode c_S_findFirsts 7 = .ok (.invokevirtual 83, 3) := by decide +kernel
theorem d_S_findFirsts_10 : decode c_S_findFirsts 10 = .ok (.if_icmp .ge 60, 3) := by decide +kernel
theorem d_S_findFirsts_13 : decode c_S_findFirsts 13 = .ok (.aload_n 0, 1) := by decide +kernel
theorem d_S_findFirsts_14 : decode c_S_findFirsts 14 = .ok (.getfield 15, 3) := by decide +kernel
theorem d_S_findFirsts_17 : decode c_S_findFirsts 17 = .ok (.iload_n 1, 1) := by decide +kernel
theorem d_S_findFirsts_18 : decode c_S_findFirsts 18 = .ok (.iaload, 1) := by decide +kernel
theorem d_S_findFirsts_19 : decode c_S_findFirsts 19 = .ok (.istore_n 2, 1) := by decide +kernel
theorem d_S_findFirsts_20 : decode c_S_findFirsts 20 = .ok (.lconst 0, 1) := by decide +kernel
theorem d_S_findFirsts_21 : decode c_S_findFirsts 21 = .ok (.lstore_n 3, 1) := by decide +kernel
theorem d_S_findFirsts_22 : decode c_S_findFirsts 22 = .ok (.iconst 0, 1) := by decide +kernel
theorem d_S_findFirsts_23 : decode c_S_findFirsts 23 = .ok (.istore 5, 2) := by decide +kernel
theorem d_S_findFirsts_25 : decode c_S_findFirsts 25 = .ok (.iload 5, 2) := by decide +kernel
theorem d_S_findFirsts_27 : decode c_S_findFirsts 27 = .ok (.aload_n 0, 1) := by decide +kernel
theorem d_S_findFirsts_28 : decode c_S_findFirsts 28 = .ok (.getfield 25, 3) := by decide +kernel
theorem d_S_findFirsts_31 : decode c_S_findFirsts 31 = .ok (.iload_n 2, 1) := by decide +kernel
theorem d_S_findFirsts_32 : decode c_S_findFirsts 32 = .ok (.invokevirtual 65, 3) := by decide +kernel
theorem d_S_findFirsts_35 : decode c_S_findFirsts 35 = .ok (.if_icmp .ge 22, 3) := by decide +kernel
theorem d_S_findFirsts_38 : decode c_S_findFirsts 38 = .ok (.lload_n 3, 1) := by decide +kernel
theorem d_S_findFirsts_39 : decode c_S_findFirsts 39 = .ok (.aload_n 0, 1) := by decide +kernel
theorem d_S_findFirsts_40 : decode c_S_findFirsts 40 = .ok (.iload_n 2, 1) := by decide +kernel
theorem d_S_findFirsts_41 : decode c_S_findFirsts 41 = .ok (.iload 5, 2) := by decide +kernel
theorem d_S_findFirsts_43 : decode c_S_findFirsts 43 = .ok (.invokestatic 71, 3) := by decide +kernel
theorem d_S_findFirsts_46 : decode c_S_findFirsts 46 = .ok (.invokevirtual 75, 3) := by decide +kernel
theorem d_S_findFirsts_49 : decode c_S_findFirsts 49 = .ok (.lor, 1) := by decide +kernel
theorem d_S_findFirsts_50 : decode c_S_findFirsts 50 = .ok (.lstore_n 3, 1) := by decide +kernel
theorem d_S_findFirsts_51 : decode c_S_findFirsts 51 = .ok (.iinc 5 1, 3) := by decide +kernel
theorem d_S_findFirsts_54 : decode c_S_findFirsts 54 = .ok (.goto (-29), 3) := by decide +kernel
theorem d_S_findFirsts_57 : decode c_S_findFirsts 57 = .ok (.aload_n 0, 1) := by decide +kernel
theorem d_S_findFirsts_58 : decode c_S_findFirsts 58 = .ok (.getfield 18, 3) := by decide +kernel
theorem d_S_findFirsts_61 : decode c_S_findFirsts 61 = .ok (.iload_n 2, 1) := by decide +kernel
theorem d_S_findFirsts_62 : decode c_S_findFirsts 62 = .ok (.lload_n 3, 1) := by decide +kernel
theorem d_S_findFirsts_63 : decode c_S_findFirsts 63 = .ok (.lastore, 1) := by decide +kernel
theorem d_S_findFirsts_64 : decode c_S_findFirsts 64 = .ok (.iinc 1 1, 3) := by decide +kernel
theorem d_S_findFirsts_67 : decode c_S_findFirsts 67 = .ok (.goto (-65), 3) := by decide +kernel
theorem d_S_findFirsts_70 : decode c_S_findFirsts 70 = .ok (.return_, 1) := by decide +kernel
theorem d_S_rowFirst_0 : decode c_S_rowFirst 0 = .ok (.lconst 0, 1) := by decide +kernel
theorem d_S_rowFirst_1 : decode c_S_rowFirst 1 = .ok (.lstore_n 2, 1) := by decide +kernel
theorem d_S_rowFirst_2 : decode c_S_rowFirst 2 = .ok (.iconst 0, 1) := by decide +kernel
theorem d_S_rowFirst_3 : decode c_S_rowFirst 3 = .ok (.istore 4, 2) := by decide +kernel
theorem d_S_rowFirst_5 : decode c_S_rowFirst 5 = .ok (.iload 4, 2) := by decide +kernel
theorem d_S_rowFirst_7 : decode c_S_rowFirst 7 = .ok (.aload_n 0, 1) := by decide +kernel
theorem d_S_rowFirst_8 : decode c_S_rowFirst 8 = .ok (.getfield 25, 3) := by decide +kernel
theorem d_S_rowFirst_11 : decode c_S_rowFirst 11 = .ok (.iload_n 1, 1) := by decide +kernel
theorem d_S_rowFirst_12 : decode c_S_rowFirst 12 = .ok (.invokevirtual 87, 3) := by decide +kernel
theorem d_S_rowFirst_15 : decode c_S_rowFirst 15 = .ok (.if_icmp .ge 42, 3) := by decide +kernel
theorem d_S_rowFirst_18 : decode c_S_rowFirst 18 = .ok (.aload_n 0, 1) := by decide +kernel
theorem d_S_rowFirst_19 : decode c_S_rowFirst 19 = .ok (.getfield 25, 3) := by decide +kernel
theorem d_S_rowFirst_22 : decode c_S_rowFirst 22 = .ok (.iload_n 1, 1) := by decide +kernel
theorem d_S_rowFirst_23 : decode c_S_rowFirst 23 = .ok (.iload 4, 2) := by decide +kernel
theorem d_S_rowFirst_25 : decode c_S_rowFirst 25 = .ok (.invokevirtual 90, 3) := by decide +kernel
theorem d_S_rowFirst_28 : decode c_S_rowFirst 28 = .ok (.istore 5, 2) := by decide +kernel
theorem d_S_rowFirst_30 : decode c_S_rowFirst 30 = .ok (.lload_n 2, 1) := by decide +kernel
theorem d_S_rowFirst_31 : decode c_S_rowFirst 31 = .ok (.aload_n 0, 1) := by decide +kernel
theorem d_S_rowFirst_32 : decode c_S_rowFirst 32 = .ok (.iload 5, 2) := by decide +kernel
theorem d_S_rowFirst_34 : decode c_S_rowFirst 34 = .ok (.invokevirtual 117, 3) := by decide +kernel
theorem d_S_rowFirst_37 : decode c_S_rowFirst 37 = .ok (.lor, 1) := by decide +kernel
theorem d_S_rowFirst_38 : decode c_S_rowFirst 38 = .ok (.lstore_n 2, 1) := by decide +kernel
theorem d_S_rowFirst_39 : decode c_S_rowFirst 39 = .ok (.aload_n 0, 1) := by decide +kernel
theorem d_S_rowFirst_40 : decode c_S_rowFirst 40 = .ok (.iload 5, 2) := by decide +kernel
theorem d_S_rowFirst_42 : decode c_S_rowFirst 42 = .ok (.invokevirtual 93, 3) := by decide +kernel
theorem d_S_rowFirst_45 : decode c_S_rowFirst 45 = .ok (.ifCond .ne 6, 3) := by decide +kernel
theorem d_S_rowFirst_48 : decode c_S_rowFirst 48 = .ok (.goto 9, 3) := by decide +kernel
theorem d_S_rowFirst_51 : decode c_S_rowFirst 51 = .ok (.iinc 4 1, 3) := by decide +kernel
theorem d_S_rowFirst_54 : decode c_S_rowFirst 54 = .ok (.goto (-49), 3) := by decide +kernel
theorem d_S_rowFirst_57 : decode c_S_rowFirst 57 = .ok (.lload_n 2, 1) := by decide +kernel
theorem d_S_rowFirst_58 : decode c_S_rowFirst 58 = .ok (.lreturn, 1) := by decide +kernel
theorem d_S_symbolFirst_0 : decode c_S_symbolFirst 0 = .ok (.iload_n 1, 1) := by decide +kernel
theorem d_S_symbolFirst_1 : decode c_S_symbolFirst 1 = .ok (.invokestatic 96, 3) := by decide +kernel
theorem d_S_symbolFirst_4 : decode c_S_symbolFirst 4 = .ok (.ifCond .eq 9, 3) := by decide +kernel
theorem d_S_symbolFirst_7 : decode c_S_symbolFirst 7 = .ok (.lconst 1, 1) := by decide +kernel
theorem d_S_symbolFirst_8 : decode c_S_symbolFirst 8 = .ok (.iload_n 1, 1) := by decide +kernel
theorem d_S_symbolFirst_9 : decode c_S_symbolFirst 9 = .ok (.lshl, 1) := by decide +kernel
theorem d_S_symbolFirst_10 : decode c_S_symbolFirst 10 = .ok (.goto 12, 3) := by decide +kernel
theorem d_S_symbolFirst_13 : decode c_S_symbolFirst 13 = .ok (.aload_n 0, 1) := by decide +kernel
theorem d_S_symbolFirst_14 : decode c_S_symbolFirst 14 = .ok (.getfield 18, 3) := by decide +kernel
theorem d_S_symbolFirst_17 : decode c_S_symbolFirst 17 = .ok (.iload_n 1, 1) := by decide +kernel
theorem d_S_symbolFirst_18 : decode c_S_symbolFirst 18 = .ok (.invokestatic 99, 3) := by decide +kernel
theorem d_S_symbolFirst_21 : decode c_S_symbolFirst 21 = .ok (.laload, 1) := by decide +kernel
theorem d_S_symbolFirst_22 : decode c_S_symbolFirst 22 = .ok (.lreturn, 1) := by decide +kernel
theorem d_S_findFollowings_0 : decode c_S_findFollowings 0 = .ok (.iconst 0, 1) := by decide +kernel
theorem d_S_findFollowings_1 : decode c_S_findFollowings 1 = .ok (.istore_n 1, 1) := by decide +kernel
theorem d_S_findFollowings_2 : decode c_S_findFollowings 2 = .ok (.iload_n 1, 1) := by decide +kernel
theorem d_S_findFollowings_3 : decode c_S_findFollowings 3 = .ok (.aload_n 0, 1) := by decide +kernel
theorem d_S_findFollowings_4 : decode c_S_findFollowings 4 = .ok (.getfield 25, 3) := by decide +kernel
theorem d_S_findFollowings_7 : decode c_S_findFollowings 7 = .ok (.invokevirtual 83, 3) := by decide +kernel
theorem d_S_findFollowings_10 : decode c_S_findFollowings 10 = .ok (.if_icmp .ge 16, 3) := by decide +kernel
theorem d_S_findFollowings_13 : decode c_S_findFollowings 13 = .ok (.aload_n 0, 1) := by decide +kernel
theorem d_S_findFollowings_14 : decode c_S_findFollowings 14 = .ok (.getfield 22, 3) := by decide +kernel
theorem d_S_findFollowings_17 : decode c_S_findFollowings 17 = .ok (.iload_n 1, 1) := by decide +kernel
theorem d_S_findFollowings_18 : decode c_S_findFollowings 18 = .ok (.lconst 0, 1) := by decide +kernel
theorem d_S_findFollowings_19 : decode c_S_findFollowings 19 = .ok (.lastore, 1) := by decide +kernel
theorem d_S_findFollowings_20 : decode c_S_findFollowings 20 = .ok (.iinc 1 1, 3) := by decide +kernel
theorem d_S_findFollowings_23 : decode c_S_findFollowings 23 = .ok (.goto (-21), 3) := by decide +kernel
theorem d_S_findFollowings_26 : decode c_S_findFollowings 26 = .ok (.aload_n 0, 1) := by decide +kernel
theorem d_S_findFollowings_27 : decode c_S_findFollowings 27 = .ok (.getfield 22, 3) := by decide +kernel
theorem d_S_findFollowings_30 : decode c_S_findFollowings 30 = .ok (.iconst 0, 1) := by decide +kernel
theorem d_S_findFollowings_31 : decode c_S_findFollowings 31 = .ok (.ldc2_w 120, 3) := by decide +kernel
theorem d_S_findFollowings_34 : decode c_S_findFollowings 34 = .ok (.lastore, 1) := by decide +kernel
theorem d_S_findFollowings_35 : decode c_S_findFollowings 35 = .ok (.iconst 1, 1) := by decide +kernel
theorem d_S_findFollowings_36 : decode c_S_findFollowings 36 = .ok (.istore_n 1, 1) := by decide +kernel
theorem d_S_findFollowings_37 : decode c_S_findFollowings 37 = .ok (.iconst 0, 1) := by decide +kernel
theorem d_S_findFollowings_38 : decode c_S_findFollowings 38 = .ok (.istore_n 2, 1) := by decide +kernel
theorem d_S_findFollowings_39 : decode c_S_findFollowings 39 = .ok (.iload_n 2, 1) := by decide +kernel
theorem d_S_findFollowings_40 : decode c_S_findFollowings 40 = .ok (.bipush 16, 2) := by decide +kernel
theorem d_S_findFollowings_42 : decode c_S_findFollowings 42 = .ok (.if_icmp .gt 75, 3) := by decide +kernel
theorem d_S_findFollowings_45 : decode c_S_findFollowings 45 = .ok (.iload_n 1, 1) := by decide +kernel
theorem d_S_findFollowings_46 : decode c_S_findFollowings 46 = .ok (.ifCond .eq 71, 3) := by decide +kernel
theorem d_S_findFollowings_49 : decode c_S_findFollowings 49 = .ok (.iconst 0, 1) := by decide +kernel
theorem d_S_findFollowings_50 : decode c_S_findFollowings 50 = .ok (.istore_n 1, 1) := by decide +kernel
theorem d_S_findFollowings_51 : decode c_S_findFollowings 51 = .ok (.iconst 0, 1) := by decide +kernel
theorem d_S_findFollowings_52 : decode c_S_findFollowings 52 = .ok (.istore_n 3, 1) := by decide +kernel
theorem d_S_findFollowings_53 : decode c_S_findFollowings 53 = .ok (.iload_n 3, 1) := by decide +kernel
theorem d_S_findFollowings_54 : decode c_S_findFollowings 54 = .ok (.aload_n 0, 1) := by decide +kernel
theorem d_S_findFollowings_55 : decode c_S_findFollowings 55 = .ok (.getfield 25, 3) := by decide +kernel
theorem d_S_findFollowings_58 : decode c_S_findFollowings 58 = .ok (.invokevirtual 83, 3) := by decide +kernel
theorem d_S_findFollowings_61 : decode c_S_findFollowings 61 = .ok (.if_icmp .ge 50, 3) := by decide +kernel
theorem d_S_findFollowings_64 : decode c_S_findFollowings 64 = .ok (.iconst 0, 1) := by decide +kernel
theorem d_S_findFollowings_65 : decode c_S_findFollowings 65 = .ok (.istore 4, 2) := by decide +kernel
theorem d_S_findFollowings_67 : decode c_S_findFollowings 67 = .ok (.iload 4, 2) := by decide +kernel
theorem d_S_findFollowings_69 : decode c_S_findFollowings 69 = .ok (.aload_n 0, 1) := by decide +kernel
theorem d_S_findFollowings_70 : decode c_S_findFollowings 70 = .ok (.getfield 25, 3) := by decide +kernel
theorem d_S_findFollowings_73 : decode c_S_findFollowings 73 = .ok (.iload_n 3, 1) := by decide +kernel
theorem d_S_findFollowings_74 : decode c_S_findFollowings 74 = .ok (.invokevirtual 65, 3) := by decide +kernel
theorem d_S_findFollowings_77 : decode c_S_findFollowings 77 = .ok (.if_icmp .ge 28, 3) := by decide +kernel
theorem d_S_findFollowings_80 : decode c_S_findFollowings 80 = .ok (.iload_n 1, 1) := by decide +kernel
theorem d_S_findFollowings_81 : decode c_S_findFollowings 81 = .ok (.aload_n 0, 1) := by decide +kernel
theorem d_S_findFollowings_82 : decode c_S_findFollowings 82 = .ok (.iload_n 3, 1) := by decide +kernel
theorem d_S_findFollowings_83 : decode c_S_findFollowings 83 = .ok (.iload 4, 2) := by decide +kernel
theorem d_S_findFollowings_85 : decode c_S_findFollowings 85 = .ok (.invokestatic 71, 3) := by decide +kernel
theorem d_S_findFollowings_88 : decode c_S_findFollowings 88 = .ok (.aload_n 0, 1) := by decide +kernel
theorem d_S_findFollowings_89 : decode c_S_findFollowings 89 = .ok (.getfield 22, 3) := by decide +kernel
theorem d_S_findFollowings_92 : decode c_S_findFollowings 92 = .ok (.iload_n 3, 1) := by decide +kernel
theorem d_S_findFollowings_93 : decode c_S_findFollowings 93 = .ok (.laload, 1) := by decide +kernel
theorem d_S_findFollowings_94 : decode c_S_findFollowings 94 = .ok (.invokevirtual 122, 3) := by decide +kernel
theorem d_S_findFollowings_97 : decode c_S_findFollowings 97 = .ok (.ior, 1) := by decide +kernel
theorem d_S_findFollowings_98 : decode c_S_findFollowings 98 = .ok (.istore_n 1, 1) := by decide +kernel
theorem d_S_findFollowings_99 : decode c_S_findFollowings 99 = .ok (.iinc 4 1, 3) := by decide +kernel
theorem d_S_findFollowings_102 : decode c_S_findFollowings 102 = .ok (.goto (-35), 3) := by decide +kernel
theorem d_S_findFollowings_105 : decode c_S_findFollowings 105 = .ok (.iinc 3 1, 3) := by decide +kernel
theorem d_S_findFollowings_108 : decode c_S_findFollowings 108 = .ok (.goto (-55), 3) := by decide +kernel
theorem d_S_findFollowings_111 : decode c_S_findFollowings 111 = .ok (.iinc 2 1, 3) := by decide +kernel
theorem d_S_findFollowings_114 : decode c_S_findFollowings 114 = .ok (.goto (-75), 3) := by decide +kernel
theorem d_S_findFollowings_117 : decode c_S_findFollowings 117 = .ok (.return_, 1) := by decide +kernel
theorem d_S_widenFollowings_0 : decode c_S_widenFollowings 0 = .ok (.iconst 0, 1) := by decide +kernel
theorem d_S_widenFollowings_1 : decode c_S_widenFollowings 1 = .ok (.istore 4, 2) := by decide +kernel
theorem d_S_widenFollowings_3 : decode c_S_widenFollowings 3 = .ok (.lload_n 2, 1) := by decide +kernel
theorem d_S_widenFollowings_4 : decode c_S_widenFollowings 4 = .ok (.lstore 5, 2) := by decide +kernel
theorem d_S_widenFollowings_6 : decode c_S_widenFollowings 6 = .ok (.aload_n 0, 1) := by decide +kernel
theorem d_S_widenFollowings_7 : decode c_S_widenFollowings 7 = .ok (.getfield 25, 3) := by decide +kernel
theorem d_S_widenFollowings_10 : decode c_S_widenFollowings 10 = .ok (.iload_n 1, 1) := by decide +kernel
theorem d_S_widenFollowings_11 : decode c_S_widenFollowings 11 = .ok (.invokevirtual 87, 3) := by decide +kernel
theorem d_S_widenFollowings_14 : decode c_S_widenFollowings 14 = .ok (.iconst 1, 1) := by decide +kernel
theorem d_S_widenFollowings_15 : decode c_S_widenFollowings 15 = .ok (.isub, 1) := by decide +kernel
theorem d_S_widenFollowings_16 : decode c_S_widenFollowings 16 = .ok (.istore 7, 2) := by decide +kernel
theorem d_S_widenFollowings_18 : decode c_S_widenFollowings 18 = .ok (.iload 7, 2) := by decide +kernel
theorem d_S_widenFollowings_20 : decode c_S_widenFollowings 20 = .ok (.ifCond .lt 101, 3) := by decide +kernel
theorem d_S_widenFollowings_23 : decode c_S_widenFollowings 23 = .ok (.aload_n 0, 1) := by decide +kernel
theorem d_S_widenFollowings_24 : decode c_S_widenFollowings 24 = .ok (.getfield 25, 3) := by decide +kernel
theorem d_S_widenFollowings_27 : decode c_S_widenFollowings 27 = .ok (.iload_n 1, 1) := by decide +kernel
theorem d_S_widenFollowings_28 : decode c_S_widenFollowings 28 = .ok (.iload 7, 2) := by decide +kernel
theorem d_S_widenFollowings_30 : decode c_S_widenFollowings 30 = .ok (.invokevirtual 90, 3) := by decide +kernel
theorem d_S_widenFollowings_33 : decode c_S_widenFollowings 33 = .ok (.istore 8, 2) := by decide +kernel
theorem d_S_widenFollowings_35 : decode c_S_widenFollowings 35 = .ok (.iload 8, 2) := by decide +kernel
theorem d_S_widenFollowings_37 : decode c_S_widenFollowings 37 = .ok (.invokestatic 96, 3) := by decide +kernel
theorem d_S_widenFollowings_40 : decode c_S_widenFollowings 40 = .ok (.ifCond .ne 51, 3) := by decide +kernel
theorem d_S_widenFollowings_43 : decode c_S_widenFollowings 43 = .ok (.iload 8, 2) := by decide +kernel
theorem d_S_widenFollowings_45 : decode c_S_widenFollowings 45 = .ok (.invokestatic 99, 3) := by decide +kernel
theorem d_S_widenFollowings_48 : decode c_S_widenFollowings 48 = .ok (.istore 9, 2) := by decide +kernel
theorem d_S_widenFollowings_50 : decode c_S_widenFollowings 50 = .ok (.iload 4, 2) := by decide +kernel
theorem d_S_widenFollowings_52 : decode c_S_widenFollowings 52 = .ok (.lload 5, 2) := by decide +kernel
theorem d_S_widenFollowings_54 : decode c_S_widenFollowings 54 = .ok (.aload_n 0, 1) := by decide +kernel
theorem d_S_widenFollowings_55 : decode c_S_widenFollowings 55 = .ok (.getfield 22, 3) := by decide +kernel
theorem d_S_widenFollowings_58 : decode c_S_widenFollowings 58 = .ok (.iload 9, 2) := by decide +kernel
theorem d_S_widenFollowings_60 : decode c_S_widenFollowings 60 = .ok (.laload, 1) := by decide +kernel
theorem d_S_widenFollowings_61 : decode c_S_widenFollowings 61 = .ok (.ldc2_w 126, 3) := by decide +kernel
theorem d_S_widenFollowings_64 : decode c_S_widenFollowings 64 = .ok (.lxor, 1) := by decide +kernel
theorem d_S_widenFollowings_65 : decode c_S_widenFollowings 65 = .ok (.land, 1) := by decide +kernel
theorem d_S_widenFollowings_66 : decode c_S_widenFollowings 66 = .ok (.lconst 0, 1) := by decide +kernel
theorem d_S_widenFollowings_67 : decode c_S_widenFollowings 67 = .ok (.lcmp, 1) := by decide +kernel
theorem d_S_widenFollowings_68 : decode c_S_widenFollowings 68 = .ok (.ifCond .eq 7, 3) := by decide +kernel
theorem d_S_widenFollowings_71 : decode c_S_widenFollowings 71 = .ok (.iconst 1, 1) := by decide +kernel
theorem d_S_widenFollowings_72 : decode c_S_widenFollowings 72 = .ok (.goto 4, 3) := by decide +kernel
theorem d_S_widenFollowings_75 : decode c_S_widenFollowings 75 = .ok (.iconst 0, 1) := by decide +kernel
theorem d_S_widenFollowings_76 : decode c_S_widenFollowings 76 = .ok (.ior, 1) := by decide +kernel
theorem d_S_widenFollowings_77 : decode c_S_widenFollowings 77 = .ok (.istore 4, 2) := by decide +kernel
theorem d_S_widenFollowings_79 : decode c_S_widenFollowings 79 = .ok (.aload_n 0, 1) := by decide +kernel
theorem d_S_widenFollowings_80 : decode c_S_widenFollowings 80 = .ok (.getfield 22, 3) := by decide +kernel
theorem d_S_widenFollowings_83 : decode c_S_widenFollowings 83 = .ok (.iload 9, 2) := by decide +kernel
theorem d_S_widenFollowings_85 : decode c_S_widenFollowings 85 = .ok (.dup2, 1) := by decide +kernel
theorem d_S_widenFollowings_86 : decode c_S_widenFollowings 86 = .ok (.laload, 1) := by decide +kernel
theorem d_S_widenFollowings_87 : decode c_S_widenFollowings 87 = .ok (.lload 5, 2) := by decide +kernel
theorem d_S_widenFollowings_89 : decode c_S_widenFollowings 89 = .ok (.lor, 1) := by decide +kernel
theorem d_S_widenFollowings_90 : decode c_S_widenFollowings 90 = .ok (.lastore, 1) := by decide +kernel
theorem d_S_widenFollowings_91 : decode c_S_widenFollowings 91 = .ok (.aload_n 0, 1) := by decide +kernel
theorem d_S_widenFollowings_92 : decode c_S_widenFollowings 92 = .ok (.iload 8, 2) := by decide +kernel
theorem d_S_widenFollowings_94 : decode c_S_widenFollowings 94 = .ok (.invokevirtual 117, 3) := by decide +kernel
theorem d_S_widenFollowings_97 : decode c_S_widenFollowings 97 = .ok (.aload_n 0, 1) := by decide +kernel
theorem d_S_widenFollowings_98 : decode c_S_widenFollowings 98 = .ok (.iload 8, 2) := by decide +kernel
theorem d_S_widenFollowings_100 : decode c_S_widenFollowings 100 = .ok (.invokevirtual 93, 3) := by decide +kernel
theorem d_S_widenFollowings_103 : decode c_S_widenFollowings 103 = .ok (.ifCond .eq 8, 3) := by decide +kernel
theorem d_S_widenFollowings_106 : decode c_S_widenFollowings 106 = .ok (.lload 5, 2) := by decide +kernel
theorem d_S_widenFollowings_108 : decode c_S_widenFollowings 108 = .ok (.goto 4, 3) := by decide +kernel
theorem d_S_widenFollowings_111 : decode c_S_widenFollowings 111 = .ok (.lconst 0, 1) := by decide +kernel
theorem d_S_widenFollowings_112 : decode c_S_widenFollowings 112 = .ok (.lor, 1) := by decide +kernel
theorem d_S_widenFollowings_113 : decode c_S_widenFollowings 113 = .ok (.lstore 5, 2) := by decide +kernel
theorem d_S_widenFollowings_115 : decode c_S_widenFollowings 115 = .ok (.iinc 7 (-1), 3) := by decide +kernel
theorem d_S_widenFollowings_118 : decode c_S_widenFollowings 118 = .ok (.goto (-100), 3) := by decide +kernel
theorem d_S_widenFollowings_121 : decode c_S_widenFollowings 121 = .ok (.iload 4, 2) := by decide +kernel
theorem d_S_widenFollowings_123 : decode c_S_widenFollowings 123 = .ok (.ireturn, 1) := by decide +kernel
theorem d_T_init_0 : decode c_T_init 0 = .ok (.aload_n 0, 1) := by decide +kernel
theorem d_T_init_1 : decode c_T_init 1 = .ok (.invokespecial 3, 3) := by decide +kernel
theorem d_T_init_4 : decode c_T_init 4 = .ok (.aload_n 0, 1) := by decide +kernel
theorem d_T_init_5 : decode c_T_init 5 = .ok (.sipush 14000, 3) := by decide +kernel
theorem d_T_init_8 : decode c_T_init 8 = .ok (.newarray .int, 2) := by decide +kernel
theorem d_T_init_10 : decode c_T_init 10 = .ok (.putfield 11, 3) := by decide +kernel
theorem d_T_init_13 : decode c_T_init 13 = .ok (.return_, 1) := by decide +kernel
theorem d_T_empty_0 : decode c_T_empty 0 = .ok (.aload_n 0, 1) := by decide +kernel
theorem d_T_empty_1 : decode c_T_empty 1 = .ok (.iconst 0, 1) := by decide +kernel
theorem d_T_empty_2 : decode c_T_empty 2 = .ok (.putfield 15, 3) := by decide +kernel
theorem d_T_empty_5 : decode c_T_empty 5 = .ok (.return_, 1) := by decide +kernel
theorem d_T_size_0 : decode c_T_size 0 = .ok (.aload_n 0, 1) := by decide +kernel
theorem d_T_size_1 : decode c_T_size 1 = .ok (.getfield 15, 3) := by decide +kernel
theorem d_T_size_4 : decode c_T_size 4 = .ok (.ireturn, 1) := by decide +kernel
theorem d_T_fact_0 : decode c_T_fact 0 = .ok (.aload_n 0, 1) := by decide +kernel
theorem d_T_fact_1 : decode c_T_fact 1 = .ok (.getfield 11, 3) := by decide +kernel
theorem d_T_fact_4 : decode c_T_fact 4 = .ok (.iload_n 1, 1) := by decide +kernel
theorem d_T_fact_5 : decode c_T_fact 5 = .ok (.bipush 7, 2) := by decide +kernel
theorem d_T_fact_7 : decode c_T_fact 7 = .ok (.imul, 1) := by decide +kernel
theorem d_T_fact_8 : decode c_T_fact 8 = .ok (.iload_n 2, 1) := by decide +kernel
theorem d_T_fact_9 : decode c_T_fact 9 = .ok (.iadd, 1) := by decide +kernel
theorem d_T_fact_10 : decode c_T_fact 10 = .ok (.iaload, 1) := by decide +kernel
theorem d_T_fact_11 : decode c_T_fact 11 = .ok (.ireturn, 1) := by decide +kernel
theorem d_T_add_0 : decode c_T_add 0 = .ok (.aload_n 0, 1) := by decide +kernel
theorem d_T_add_1 : decode c_T_add 1 = .ok (.getfield 15, 3) := by decide +kernel
theorem d_T_add_4 : decode c_T_add 4 = .ok (.bipush 7, 2) := by decide +kernel
theorem d_T_add_6 : decode c_T_add 6 = .ok (.imul, 1) := by decide +kernel
theorem d_T_add_7 : decode c_T_add 7 = .ok (.istore 4, 2) := by decide +kernel
theorem d_T_add_9 : decode c_T_add 9 = .ok (.aload_n 0, 1) := by decide +kernel
theorem d_T_add_10 : decode c_T_add 10 = .ok (.getfield 11, 3) := by decide +kernel
theorem d_T_add_13 : decode c_T_add 13 = .ok (.iload 4, 2) := by decide +kernel
theorem d_T_add_15 : decode c_T_add 15 = .ok (.iconst 4, 1) := by decide +kernel
theorem d_T_add_16 : decode c_T_add 16 = .ok (.iadd, 1) := by decide +kernel
theorem d_T_add_17 : decode c_T_add 17 = .ok (.iload_n 1, 1) := by decide +kernel
theorem d_T_add_18 : decode c_T_add 18 = .ok (.iastore, 1) := by decide +kernel
theorem d_T_add_19 : decode c_T_add 19 = .ok (.aload_n 0, 1) := by decide +kernel
theorem d_T_add_20 : decode c_T_add 20 = .ok (.getfield 11, 3) := by decide +kernel
theorem d_T_add_23 : decode c_T_add 23 = .ok (.iload 4, 2) := by decide +kernel
theorem d_T_add_25 : decode c_T_add 25 = .ok (.iconst 5, 1) := by decide +kernel
theorem d_T_add_26 : decode c_T_add 26 = .ok (.iadd, 1) := by decide +kernel
theorem d_T_add_27 : decode c_T_add 27 = .ok (.iload_n 2, 1) := by decide +kernel
theorem d_T_add_28 : decode c_T_add 28 = .ok (.iastore, 1) := by decide +kernel
theorem d_T_add_29 : decode c_T_add 29 = .ok (.aload_n 0, 1) := by decide +kernel
theorem d_T_add_30 : decode c_T_add 30 = .ok (.getfield 11, 3) := by decide +kernel
theorem d_T_add_33 : decode c_T_add 33 = .ok (.iload 4, 2) := by decide +kernel
theorem d_T_add_35 : decode c_T_add 35 = .ok (.iconst 3, 1) := by decide +kernel
theorem d_T_add_36 : decode c_T_add 36 = .ok (.iadd, 1) := by decide +kernel
theorem d_T_add_37 : decode c_T_add 37 = .ok (.iload_n 3, 1) := by decide +kernel
theorem d_T_add_38 : decode c_T_add 38 = .ok (.iastore, 1) := by decide +kernel
theorem d_T_add_39 : decode c_T_add 39 = .ok (.aload_n 0, 1) := by decide +kernel
theorem d_T_add_40 : decode c_T_add 40 = .ok (.dup, 1) := by decide +kernel
theorem d_T_add_41 : decode c_T_add 41 = .ok (.getfield 15, 3) := by decide +kernel
theorem d_T_add_44 : decode c_T_add 44 = .ok (.iconst 1, 1) := by decide +kernel
theorem d_T_add_45 : decode c_T_add 45 = .ok (.iadd, 1) := by decide +kernel
theorem d_T_add_46 : decode c_T_add 46 = .ok (.putfield 15, 3) := by decide +kernel
theorem d_T_add_49 : decode c_T_add 49 = .ok (.aload_n 0, 1) := by decide +kernel
theorem d_T_add_50 : decode c_T_add 50 = .ok (.getfield 15, 3) := by decide +kernel
theorem d_T_add_53 : decode c_T_add 53 = .ok (.iconst 1, 1) := by decide +kernel
theorem d_T_add_54 : decode c_T_add 54 = .ok (.isub, 1) := by decide +kernel
theorem d_T_add_55 : decode c_T_add 55 = .ok (.ireturn, 1) := by decide +kernel
theorem d_T_choose_0 : decode c_T_choose 0 = .ok (.iload_n 1, 1) := by decide +kernel
theorem d_T_choose_1 : decode c_T_choose 1 = .ok (.bipush 7, 2) := by decide +kernel
theorem d_T_choose_3 : decode c_T_choose 3 = .ok (.imul, 1) := by decide +kernel
theorem d_T_choose_4 : decode c_T_choose 4 = .ok (.istore 6, 2) := by decide +kernel
theorem d_T_choose_6 : decode c_T_choose 6 = .ok (.aload_n 0, 1) := by decide +kernel
theorem d_T_choose_7 : decode c_T_choose 7 = .ok (.getfield 11, 3) := by decide +kernel
theorem d_T_choose_10 : decode c_T_choose 10 = .ok (.iload 6, 2) := by decide +kernel
theorem d_T_choose_12 : decode c_T_choose 12 = .ok (.iconst 0, 1) := by decide +kernel
theorem d_T_choose_13 : decode c_T_choose 13 = .ok (.iadd, 1) := by decide +kernel
theorem d_T_choose_14 : decode c_T_choose 14 = .ok (.iload_n 2, 1) := by decide +kernel
theorem d_T_choose_15 : decode c_T_choose 15 = .ok (.iastore, 1) := by decide +kernel
theorem d_T_choose_16 : decode c_T_choose 16 = .ok (.aload_n 0, 1) := by decide +kernel
theorem d_T_choose_17 : decode c_T_choose 17 = .ok (.getfield 11, 3) := by decide +kernel
theorem d_T_choose_20 : decode c_T_choose 20 = .ok (.iload 6, 2) := by decide +kernel
theorem d_T_choose_22 : decode c_T_choose 22 = .ok (.iconst 1, 1) := by decide +kernel
theorem d_T_choose_23 : decode c_T_choose 23 = .ok (.iadd, 1) := by decide +kernel
theorem d_T_choose_24 : decode c_T_choose 24 = .ok (.iload_n 3, 1) := by decide +kernel
theorem d_T_choose_25 : decode c_T_choose 25 = .ok (.iastore, 1) := by decide +kernel
theorem d_T_choose_26 : decode c_T_choose 26 = .ok (.aload_n 0, 1) := by decide +kernel
theorem d_T_choose_27 : decode c_T_choose 27 = .ok (.getfield 11, 3) := by decide +kernel
theorem d_T_choose_30 : decode c_T_choose 30 = .ok (.iload 6, 2) := by decide +kernel
theorem d_T_choose_32 : decode c_T_choose 32 = .ok (.iconst 2, 1) := by decide +kernel
theorem d_T_choose_33 : decode c_T_choose 33 = .ok (.iadd, 1) := by decide +kernel
theorem d_T_choose_34 : decode c_T_choose 34 = .ok (.iload 4, 2) := by decide +kernel
theorem d_T_choose_36 : decode c_T_choose 36 = .ok (.iastore, 1) := by decide +kernel
theorem d_T_choose_37 : decode c_T_choose 37 = .ok (.aload_n 0, 1) := by decide +kernel
theorem d_T_choose_38 : decode c_T_choose 38 = .ok (.getfield 11, 3) := by decide +kernel
theorem d_T_choose_41 : decode c_T_choose 41 = .ok (.iload 6, 2) := by decide +kernel
theorem d_T_choose_43 : decode c_T_choose 43 = .ok (.bipush 6, 2) := by decide +kernel
theorem d_T_choose_45 : decode c_T_choose 45 = .ok (.iadd, 1) := by decide +kernel
theorem d_T_choose_46 : decode c_T_choose 46 = .ok (.iload 5, 2) := by decide +kernel
theorem d_T_choose_48 : decode c_T_choose 48 = .ok (.iastore, 1) := by decide +kernel
theorem d_T_choose_49 : decode c_T_choose 49 = .ok (.return_, 1) := by decide +kernel
theorem d_T_findEnds_0 : decode c_T_findEnds 0 = .ok (.aload_n 0, 1) := by decide +kernel
theorem d_T_findEnds_1 : decode c_T_findEnds 1 = .ok (.getfield 15, 3) := by decide +kernel
theorem d_T_findEnds_4 : decode c_T_findEnds 4 = .ok (.iconst 1, 1) := by decide +kernel
theorem d_T_findEnds_5 : decode c_T_findEnds 5 = .ok (.isub, 1) := by decide +kernel
theorem d_T_findEnds_6 : decode c_T_findEnds 6 = .ok (.istore_n 1, 1) := by decide +kernel
theorem d_T_findEnds_7 : decode c_T_findEnds 7 = .ok (.iload_n 1, 1) := by decide +kernel
theorem d_T_findEnds_8 : decode c_T_findEnds 8 = .ok (.ifCond .lt 73, 3) := by decide +kernel
theorem d_T_findEnds_11 : decode c_T_findEnds 11 = .ok (.iload_n 1, 1) := by decide +kernel
theorem d_T_findEnds_12 : decode c_T_findEnds 12 = .ok (.bipush 7, 2) := by decide +kernel
theorem d_T_findEnds_14 : decode c_T_findEnds 14 = .ok (.imul, 1) := by decide +kernel
theorem d_T_findEnds_15 : decode c_T_findEnds 15 = .ok (.istore_n 2, 1) := by decide +kernel
theorem d_T_findEnds_16 : decode c_T_findEnds 16 = .ok (.aload_n 0, 1) := by decide +kernel
theorem d_T_findEnds_17 : decode c_T_findEnds 17 = .ok (.getfield 11, 3) := by decide +kernel
theorem d_T_findEnds_20 : decode c_T_findEnds 20 = .ok (.iload_n 2, 1) := by decide +kernel
theorem d_T_findEnds_21 : decode c_T_findEnds 21 = .ok (.iconst 3, 1) := by decide +kernel
theorem d_T_findEnds_22 : decode c_T_findEnds 22 = .ok (.iadd, 1) := by decide +kernel
theorem d_T_findEnds_23 : decode c_T_findEnds 23 = .ok (.iaload, 1) := by decide +kernel
theorem d_T_findEnds_24 : decode c_T_findEnds 24 = .ok (.istore_n 3, 1) := by decide +kernel
theorem d_T_findEnds_25 : decode c_T_findEnds 25 = .ok (.aload_n 0, 1) := by decide +kernel
theorem d_T_findEnds_26 : decode c_T_findEnds 26 = .ok (.getfield 11, 3) := by decide +kernel
theorem d_T_findEnds_29 : decode c_T_findEnds 29 = .ok (.iload_n 2, 1) := by decide +kernel
theorem d_T_findEnds_30 : decode c_T_findEnds 30 = .ok (.iconst 4, 1) := by decide +kernel
theorem d_T_findEnds_31 : decode c_T_findEnds 31 = .ok (.iadd, 1) := by decide +kernel
theorem d_T_findEnds_32 : decode c_T_findEnds 32 = .ok (.iaload, 1) := by decide +kernel
theorem d_T_findEnds_33 : decode c_T_findEnds 33 = .ok (.istore 4, 2) := by decide +kernel
theorem d_T_findEnds_35 : decode c_T_findEnds 35 = .ok (.iload 4, 2) := by decide +kernel
theorem d_T_findEnds_37 : decode c_T_findEnds 37 = .ok (.iconst (-1), 1) := by decide +kernel
theorem d_T_findEnds_38 : decode c_T_findEnds 38 = .ok (.if_icmp .eq 19, 3) := by decide +kernel
theorem d_T_findEnds_41 : decode c_T_findEnds 41 = .ok (.aload_n 0, 1) := by decide +kernel
theorem d_T_findEnds_42 : decode c_T_findEnds 42 = .ok (.getfield 11, 3) := by decide +kernel
theorem d_T_findEnds_45 : decode c_T_findEnds 45 = .ok (.iload 4, 2) := by decide +kernel
theorem d_T_findEnds_47 : decode c_T_findEnds 47 = .ok (.bipush 7, 2) := by decide +kernel
theorem d_T_findEnds_49 : decode c_T_findEnds 49 = .ok (.imul, 1) := by decide +kernel
theorem d_T_findEnds_50 : decode c_T_findEnds 50 = .ok (.iconst 3, 1) := by decide +kernel
theorem d_T_findEnds_51 : decode c_T_findEnds 51 = .ok (.iadd, 1) := by decide +kernel
theorem d_T_findEnds_52 : decode c_T_findEnds 52 = .ok (.dup2, 1) := by decide +kernel
theorem d_T_findEnds_53 : decode c_T_findEnds 53 = .ok (.iaload, 1) := by decide +kernel
theorem d_T_findEnds_54 : decode c_T_findEnds 54 = .ok (.iload_n 3, 1) := by decide +kernel
theorem d_T_findEnds_55 : decode c_T_findEnds 55 = .ok (.iadd, 1) := by decide +kernel
theorem d_T_findEnds_56 : decode c_T_findEnds 56 = .ok (.iastore, 1) := by decide +kernel
theorem d_T_findEnds_57 : decode c_T_findEnds 57 = .ok (.aload_n 0, 1) := by decide +kernel
theorem d_T_findEnds_58 : decode c_T_findEnds 58 = .ok (.getfield 11, 3) := by decide +kernel
theorem d_T_findEnds_61 : decode c_T_findEnds 61 = .ok (.iload_n 2, 1) := by decide +kernel
theorem d_T_findEnds_62 : decode c_T_findEnds 62 = .ok (.iconst 3, 1) := by decide +kernel
theorem d_T_findEnds_63 : decode c_T_findEnds 63 = .ok (.iadd, 1) := by decide +kernel
theorem d_T_findEnds_64 : decode c_T_findEnds 64 = .ok (.aload_n 0, 1) := by decide +kernel
theorem d_T_findEnds_65 : decode c_T_findEnds 65 = .ok (.getfield 11, 3) := by decide +kernel
theorem d_T_findEnds_68 : decode c_T_findEnds 68 = .ok (.iload_n 2, 1) := by decide +kernel
theorem d_T_findEnds_69 : decode c_T_findEnds 69 = .ok (.iconst 2, 1) := by decide +kernel
theorem d_T_findEnds_70 : decode c_T_findEnds 70 = .ok (.iadd, 1) := by decide +kernel
theorem d_T_findEnds_71 : decode c_T_findEnds 71 = .ok (.iaload, 1) := by decide +kernel
theorem d_T_findEnds_72 : decode c_T_findEnds 72 = .ok (.iload_n 3, 1) := by decide +kernel
theorem d_T_findEnds_73 : decode c_T_findEnds 73 = .ok (.iadd, 1) := by decide +kernel
theorem d_T_findEnds_74 : decode c_T_findEnds 74 = .ok (.iastore, 1) := by decide +kernel
theorem d_T_findEnds_75 : decode c_T_findEnds 75 = .ok (.iinc 1 (-1), 3) := by decide +kernel
theorem d_T_findEnds_78 : decode c_T_findEnds 78 = .ok (.goto (-71), 3) := by decide +kernel
theorem d_T_findEnds_81 : decode c_T_findEnds 81 = .ok (.return_, 1) := by decide +kernel
