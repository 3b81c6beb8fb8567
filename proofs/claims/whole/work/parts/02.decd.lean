/-! decode rows, by program -/
theorem d_M_rule_0 : decode c_M_rule 0 = .ok (.aload_n 0, 1) := by decide +kernel
theorem d_M_rule_1 : decode c_M_rule 1 = .ok (.aload_n 0, 1) := by decide +kernel
theorem d_M_rule_2 : decode c_M_rule 2 = .ok (.getfield 89, 3) := by decide +kernel
theorem d_M_rule_5 : decode c_M_rule 5 = .ok (.bipush 16, 2) := by decide +kernel
theorem d_M_rule_7 : decode c_M_rule 7 = .ok (.if_icmp .ne 7, 3) := by decide +kernel
theorem d_M_rule_10 : decode c_M_rule 10 = .ok (.iconst 1, 1) := by decide +kernel
theorem d_M_rule_11 : decode c_M_rule 11 = .ok (.goto 4, 3) := by decide +kernel
theorem d_M_rule_14 : decode c_M_rule 14 = .ok (.iconst 0, 1) := by decide +kernel
theorem d_M_rule_15 : decode c_M_rule 15 = .ok (.putfield 73, 3) := by decide +kernel
theorem d_M_rule_18 : decode c_M_rule 18 = .ok (.aload_n 0, 1) := by decide +kernel
theorem d_M_rule_19 : decode c_M_rule 19 = .ok (.getfield 73, 3) := by decide +kernel
theorem d_M_rule_22 : decode c_M_rule 22 = .ok (.ifCond .le 5, 3) := by decide +kernel
theorem d_M_rule_25 : decode c_M_rule 25 = .ok (.iconst 0, 1) := by decide +kernel
theorem d_M_rule_26 : decode c_M_rule 26 = .ok (.ireturn, 1) := by decide +kernel
theorem d_M_rule_27 : decode c_M_rule 27 = .ok (.aload_n 0, 1) := by decide +kernel
theorem d_M_rule_28 : decode c_M_rule 28 = .ok (.getfield 7, 3) := by decide +kernel
theorem d_M_rule_31 : decode c_M_rule 31 = .ok (.aload_n 0, 1) := by decide +kernel
theorem d_M_rule_32 : decode c_M_rule 32 = .ok (.getfield 89, 3) := by decide +kernel
theorem d_M_rule_35 : decode c_M_rule 35 = .ok (.iconst 0, 1) := by decide +kernel
theorem d_M_rule_36 : decode c_M_rule 36 = .ok (.iastore, 1) := by decide +kernel
theorem d_M_rule_37 : decode c_M_rule 37 = .ok (.aload_n 0, 1) := by decide +kernel
theorem d_M_rule_38 : decode c_M_rule 38 = .ok (.dup, 1) := by decide +kernel
theorem d_M_rule_39 : decode c_M_rule 39 = .ok (.getfield 89, 3) := by decide +kernel
theorem d_M_rule_42 : decode c_M_rule 42 = .ok (.iconst 1, 1) := by decide +kernel
theorem d_M_rule_43 : decode c_M_rule 43 = .ok (.iadd, 1) := by decide +kernel
theorem d_M_rule_44 : decode c_M_rule 44 = .ok (.putfield 89, 3) := by decide +kernel
theorem d_M_rule_47 : decode c_M_rule 47 = .ok (.aload_n 0, 1) := by decide +kernel
theorem d_M_rule_48 : decode c_M_rule 48 = .ok (.getfield 89, 3) := by decide +kernel
theorem d_M_rule_51 : decode c_M_rule 51 = .ok (.iconst 1, 1) := by decide +kernel
theorem d_M_rule_52 : decode c_M_rule 52 = .ok (.isub, 1) := by decide +kernel
theorem d_M_rule_53 : decode c_M_rule 53 = .ok (.ireturn, 1) := by decide +kernel
theorem d_M_isThere_0 : decode c_M_isThere 0 = .ok (.iload_n 1, 1) := by decide +kernel
theorem d_M_isThere_1 : decode c_M_isThere 1 = .ok (.ifCond .lt 15, 3) := by decide +kernel
theorem d_M_isThere_4 : decode c_M_isThere 4 = .ok (.iload_n 1, 1) := by decide +kernel
theorem d_M_isThere_5 : decode c_M_isThere 5 = .ok (.aload_n 0, 1) := by decide +kernel
theorem d_M_isThere_6 : decode c_M_isThere 6 = .ok (.getfield 89, 3) := by decide +kernel
theorem d_M_isThere_9 : decode c_M_isThere 9 = .ok (.if_icmp .ge 7, 3) := by decide +kernel
theorem d_M_isThere_12 : decode c_M_isThere 12 = .ok (.iconst 1, 1) := by decide +kernel
theorem d_M_isThere_13 : decode c_M_isThere 13 = .ok (.goto 4, 3) := by decide +kernel
theorem d_M_isThere_16 : decode c_M_isThere 16 = .ok (.iconst 0, 1) := by decide +kernel
theorem d_M_isThere_17 : decode c_M_isThere 17 = .ok (.ireturn, 1) := by decide +kernel
theorem d_M_alternative_0 : decode c_M_alternative 0 = .ok (.aload_n 0, 1) := by decide +kernel
theorem d_M_alternative_1 : decode c_M_alternative 1 = .ok (.aload_n 0, 1) := by decide +kernel
theorem d_M_alternative_2 : decode c_M_alternative 2 = .ok (.iload_n 1, 1) := by decide +kernel
theorem d_M_alternative_3 : decode c_M_alternative 3 = .ok (.invokevirtual 168, 3) := by decide +kernel
theorem d_M_alternative_6 : decode c_M_alternative 6 = .ok (.ifCond .ne 7, 3) := by decide +kernel
theorem d_M_alternative_9 : decode c_M_alternative 9 = .ok (.iconst 1, 1) := by decide +kernel
theorem d_M_alternative_10 : decode c_M_alternative 10 = .ok (.goto 19, 3) := by decide +kernel
theorem d_M_alternative_13 : decode c_M_alternative 13 = .ok (.aload_n 0, 1) := by decide +kernel
theorem d_M_alternative_14 : decode c_M_alternative 14 = .ok (.getfield 7, 3) := by decide +kernel
theorem d_M_alternative_17 : decode c_M_alternative 17 = .ok (.iload_n 1, 1) := by decide +kernel
theorem d_M_alternative_18 : decode c_M_alternative 18 = .ok (.iaload, 1) := by decide +kernel
theorem d_M_alternative_19 : decode c_M_alternative 19 = .ok (.bipush 8, 2) := by decide +kernel
theorem d_M_alternative_21 : decode c_M_alternative 21 = .ok (.if_icmp .ne 7, 3) := by decide +kernel
theorem d_M_alternative_24 : decode c_M_alternative 24 = .ok (.iconst 2, 1) := by decide +kernel
theorem d_M_alternative_25 : decode c_M_alternative 25 = .ok (.goto 4, 3) := by decide +kernel
theorem d_M_alternative_28 : decode c_M_alternative 28 = .ok (.iconst 0, 1) := by decide +kernel
theorem d_M_alternative_29 : decode c_M_alternative 29 = .ok (.putfield 73, 3) := by decide +kernel
theorem d_M_alternative_32 : decode c_M_alternative 32 = .ok (.aload_n 0, 1) := by decide +kernel
theorem d_M_alternative_33 : decode c_M_alternative 33 = .ok (.getfield 73, 3) := by decide +kernel
theorem d_M_alternative_36 : decode c_M_alternative 36 = .ok (.ifCond .le 5, 3) := by decide +kernel
theorem d_M_alternative_39 : decode c_M_alternative 39 = .ok (.iconst 0, 1) := by decide +kernel
theorem d_M_alternative_40 : decode c_M_alternative 40 = .ok (.ireturn, 1) := by decide +kernel
theorem d_M_alternative_41 : decode c_M_alternative 41 = .ok (.aload_n 0, 1) := by decide +kernel
theorem d_M_alternative_42 : decode c_M_alternative 42 = .ok (.getfield 7, 3) := by decide +kernel
theorem d_M_alternative_45 : decode c_M_alternative 45 = .ok (.iload_n 1, 1) := by decide +kernel
theorem d_M_alternative_46 : decode c_M_alternative 46 = .ok (.iaload, 1) := by decide +kernel
theorem d_M_alternative_47 : decode c_M_alternative 47 = .ok (.istore_n 2, 1) := by decide +kernel
theorem d_M_alternative_48 : decode c_M_alternative 48 = .ok (.aload_n 0, 1) := by decide +kernel
theorem d_M_alternative_49 : decode c_M_alternative 49 = .ok (.getfield 13, 3) := by decide +kernel
theorem d_M_alternative_52 : decode c_M_alternative 52 = .ok (.bipush 8, 2) := by decide +kernel
theorem d_M_alternative_54 : decode c_M_alternative 54 = .ok (.iload_n 1, 1) := by decide +kernel
theorem d_M_alternative_55 : decode c_M_alternative 55 = .ok (.imul, 1) := by decide +kernel
theorem d_M_alternative_56 : decode c_M_alternative 56 = .ok (.iload_n 2, 1) := by decide +kernel
theorem d_M_alternative_57 : decode c_M_alternative 57 = .ok (.iadd, 1) := by decide +kernel
theorem d_M_alternative_58 : decode c_M_alternative 58 = .ok (.iconst 0, 1) := by decide +kernel
theorem d_M_alternative_59 : decode c_M_alternative 59 = .ok (.iastore, 1) := by decide +kernel
theorem d_M_alternative_60 : decode c_M_alternative 60 = .ok (.aload_n 0, 1) := by decide +kernel
theorem d_M_alternative_61 : decode c_M_alternative 61 = .ok (.getfield 7, 3) := by decide +kernel
theorem d_M_alternative_64 : decode c_M_alternative 64 = .ok (.iload_n 1, 1) := by decide +kernel
theorem d_M_alternative_65 : decode c_M_alternative 65 = .ok (.dup2, 1) := by decide +kernel
theorem d_M_alternative_66 : decode c_M_alternative 66 = .ok (.iaload, 1) := by decide +kernel
theorem d_M_alternative_67 : decode c_M_alternative 67 = .ok (.iconst 1, 1) := by decide +kernel
theorem d_M_alternative_68 : decode c_M_alternative 68 = .ok (.iadd, 1) := by decide +kernel
theorem d_M_alternative_69 : decode c_M_alternative 69 = .ok (.iastore, 1) := by decide +kernel
theorem d_M_alternative_70 : decode c_M_alternative 70 = .ok (.iload_n 2, 1) := by decide +kernel
theorem d_M_alternative_71 : decode c_M_alternative 71 = .ok (.ireturn, 1) := by decide +kernel
theorem d_M_symbol_0 : decode c_M_symbol 0 = .ok (.aload_n 0, 1) := by decide +kernel
theorem d_M_symbol_1 : decode c_M_symbol 1 = .ok (.iload_n 1, 1) := by decide +kernel
theorem d_M_symbol_2 : decode c_M_symbol 2 = .ok (.invokevirtual 168, 3) := by decide +kernel
theorem d_M_symbol_5 : decode c_M_symbol 5 = .ok (.ifCond .eq 14, 3) := by decide +kernel
theorem d_M_symbol_8 : decode c_M_symbol 8 = .ok (.aload_n 0, 1) := by decide +kernel
theorem d_M_symbol_9 : decode c_M_symbol 9 = .ok (.getfield 7, 3) := by decide +kernel
theorem d_M_symbol_12 : decode c_M_symbol 12 = .ok (.iload_n 1, 1) := by decide +kernel
theorem d_M_symbol_13 : decode c_M_symbol 13 = .ok (.iaload, 1) := by decide +kernel
theorem d_M_symbol_14 : decode c_M_symbol 14 = .ok (.iconst 1, 1) := by decide +kernel
theorem d_M_symbol_15 : decode c_M_symbol 15 = .ok (.isub, 1) := by decide +kernel
theorem d_M_symbol_16 : decode c_M_symbol 16 = .ok (.goto 4, 3) := by decide +kernel
theorem d_M_symbol_19 : decode c_M_symbol 19 = .ok (.iconst (-1), 1) := by decide +kernel
theorem d_M_symbol_20 : decode c_M_symbol 20 = .ok (.istore_n 3, 1) := by decide +kernel
theorem d_M_symbol_21 : decode c_M_symbol 21 = .ok (.aload_n 0, 1) := by decide +kernel
theorem d_M_symbol_22 : decode c_M_symbol 22 = .ok (.aload_n 0, 1) := by decide +kernel
theorem d_M_symbol_23 : decode c_M_symbol 23 = .ok (.iload_n 1, 1) := by decide +kernel
theorem d_M_symbol_24 : decode c_M_symbol 24 = .ok (.invokevirtual 168, 3) := by decide +kernel
theorem d_M_symbol_27 : decode c_M_symbol 27 = .ok (.ifCond .ne 7, 3) := by decide +kernel
theorem d_M_symbol_30 : decode c_M_symbol 30 = .ok (.iconst 1, 1) := by decide +kernel
theorem d_M_symbol_31 : decode c_M_symbol 31 = .ok (.goto 43, 3) := by decide +kernel
theorem d_M_symbol_34 : decode c_M_symbol 34 = .ok (.iload_n 2, 1) := by decide +kernel
theorem d_M_symbol_35 : decode c_M_symbol 35 = .ok (.bipush (-16), 2) := by decide +kernel
theorem d_M_symbol_37 : decode c_M_symbol 37 = .ok (.if_icmp .lt 9, 3) := by decide +kernel
theorem d_M_symbol_40 : decode c_M_symbol 40 = .ok (.iload_n 2, 1) := by decide +kernel
theorem d_M_symbol_41 : decode c_M_symbol 41 = .ok (.bipush 31, 2) := by decide +kernel
theorem d_M_symbol_43 : decode c_M_symbol 43 = .ok (.if_icmp .le 7, 3) := by decide +kernel
theorem d_M_symbol_46 : decode c_M_symbol 46 = .ok (.iconst 2, 1) := by decide +kernel
theorem d_M_symbol_47 : decode c_M_symbol 47 = .ok (.goto 27, 3) := by decide +kernel
theorem d_M_symbol_50 : decode c_M_symbol 50 = .ok (.iload_n 3, 1) := by decide +kernel
theorem d_M_symbol_51 : decode c_M_symbol 51 = .ok (.ifCond .ge 7, 3) := by decide +kernel
theorem d_M_symbol_54 : decode c_M_symbol 54 = .ok (.iconst 3, 1) := by decide +kernel
theorem d_M_symbol_55 : decode c_M_symbol 55 = .ok (.goto 19, 3) := by decide +kernel
theorem d_M_symbol_58 : decode c_M_symbol 58 = .ok (.aload_n 0, 1) := by decide +kernel
theorem d_M_symbol_59 : decode c_M_symbol 59 = .ok (.iload_n 1, 1) := by decide +kernel
theorem d_M_symbol_60 : decode c_M_symbol 60 = .ok (.iload_n 3, 1) := by decide +kernel
theorem d_M_symbol_61 : decode c_M_symbol 61 = .ok (.invokevirtual 77, 3) := by decide +kernel
theorem d_M_symbol_64 : decode c_M_symbol 64 = .ok (.bipush 8, 2) := by decide +kernel
theorem d_M_symbol_66 : decode c_M_symbol 66 = .ok (.if_icmp .ne 7, 3) := by decide +kernel
theorem d_M_symbol_69 : decode c_M_symbol 69 = .ok (.iconst 4, 1) := by decide +kernel
theorem d_M_symbol_70 : decode c_M_symbol 70 = .ok (.goto 4, 3) := by decide +kernel
theorem d_M_symbol_73 : decode c_M_symbol 73 = .ok (.iconst 0, 1) := by decide +kernel
theorem d_M_symbol_74 : decode c_M_symbol 74 = .ok (.putfield 73, 3) := by decide +kernel
theorem d_M_symbol_77 : decode c_M_symbol 77 = .ok (.aload_n 0, 1) := by decide +kernel
theorem d_M_symbol_78 : decode c_M_symbol 78 = .ok (.getfield 73, 3) := by decide +kernel
theorem d_M_symbol_81 : decode c_M_symbol 81 = .ok (.ifCond .le 5, 3) := by decide +kernel
theorem d_M_symbol_84 : decode c_M_symbol 84 = .ok (.iconst 0, 1) := by decide +kernel
theorem d_M_symbol_85 : decode c_M_symbol 85 = .ok (.ireturn, 1) := by decide +kernel
theorem d_M_symbol_86 : decode c_M_symbol 86 = .ok (.aload_n 0, 1) := by decide +kernel
theorem d_M_symbol_87 : decode c_M_symbol 87 = .ok (.getfield 16, 3) := by decide +kernel
theorem d_M_symbol_90 : decode c_M_symbol 90 = .ok (.bipush 64, 2) := by decide +kernel
theorem d_M_symbol_92 : decode c_M_symbol 92 = .ok (.iload_n 1, 1) := by decide +kernel
theorem d_M_symbol_93 : decode c_M_symbol 93 = .ok (.imul, 1) := by decide +kernel
theorem d_M_symbol_94 : decode c_M_symbol 94 = .ok (.bipush 8, 2) := by decide +kernel
theorem d_M_symbol_96 : decode c_M_symbol 96 = .ok (.iload_n 3, 1) := by decide +kernel
theorem d_M_symbol_97 : decode c_M_symbol 97 = .ok (.imul, 1) := by decide +kernel
theorem d_M_symbol_98 : decode c_M_symbol 98 = .ok (.iadd, 1) := by decide +kernel
theorem d_M_symbol_99 : decode c_M_symbol 99 = .ok (.aload_n 0, 1) := by decide +kernel
theorem d_M_symbol_100 : decode c_M_symbol 100 = .ok (.iload_n 1, 1) := by decide +kernel
theorem d_M_symbol_101 : decode c_M_symbol 101 = .ok (.iload_n 3, 1) := by decide +kernel
theorem d_M_symbol_102 : decode c_M_symbol 102 = .ok (.invokevirtual 77, 3) := by decide +kernel
theorem d_M_symbol_105 : decode c_M_symbol 105 = .ok (.iadd, 1) := by decide +kernel
theorem d_M_symbol_106 : decode c_M_symbol 106 = .ok (.iload_n 2, 1) := by decide +kernel
theorem d_M_symbol_107 : decode c_M_symbol 107 = .ok (.iastore, 1) := by decide +kernel
theorem d_M_symbol_108 : decode c_M_symbol 108 = .ok (.aload_n 0, 1) := by decide +kernel
theorem d_M_symbol_109 : decode c_M_symbol 109 = .ok (.getfield 13, 3) := by decide +kernel
theorem d_M_symbol_112 : decode c_M_symbol 112 = .ok (.bipush 8, 2) := by decide +kernel
theorem d_M_symbol_114 : decode c_M_symbol 114 = .ok (.iload_n 1, 1) := by decide +kernel
theorem d_M_symbol_115 : decode c_M_symbol 115 = .ok (.imul, 1) := by decide +kernel
theorem d_M_symbol_116 : decode c_M_symbol 116 = .ok (.iload_n 3, 1) := by decide +kernel
theorem d_M_symbol_117 : decode c_M_symbol 117 = .ok (.iadd, 1) := by decide +kernel
theorem d_M_symbol_118 : decode c_M_symbol 118 = .ok (.dup2, 1) := by decide +kernel
theorem d_M_symbol_119 : decode c_M_symbol 119 = .ok (.iaload, 1) := by decide +kernel
theorem d_M_symbol_120 : decode c_M_symbol 120 = .ok (.iconst 1, 1) := by decide +kernel
theorem d_M_symbol_121 : decode c_M_symbol 121 = .ok (.iadd, 1) := by decide +kernel
theorem d_M_symbol_122 : decode c_M_symbol 122 = .ok (.iastore, 1) := by decide +kernel
theorem d_M_symbol_123 : decode c_M_symbol 123 = .ok (.aload_n 0, 1) := by decide +kernel
theorem d_M_symbol_124 : decode c_M_symbol 124 = .ok (.iload_n 1, 1) := by decide +kernel
theorem d_M_symbol_125 : decode c_M_symbol 125 = .ok (.iload_n 3, 1) := by decide +kernel
theorem d_M_symbol_126 : decode c_M_symbol 126 = .ok (.invokevirtual 77, 3) := by decide +kernel
theorem d_M_symbol_129 : decode c_M_symbol 129 = .ok (.ireturn, 1) := by decide +kernel
theorem d_M_clear_0 : decode c_M_clear 0 = .ok (.aload_n 0, 1) := by decide +kernel
theorem d_M_clear_1 : decode c_M_clear 1 = .ok (.iconst 0, 1) := by decide +kernel
theorem d_M_clear_2 : decode c_M_clear 2 = .ok (.putfield 73, 3) := by decide +kernel
theorem d_M_clear_5 : decode c_M_clear 5 = .ok (.aload_n 0, 1) := by decide +kernel
theorem d_M_clear_6 : decode c_M_clear 6 = .ok (.getfield 89, 3) := by decide +kernel
theorem d_M_clear_9 : decode c_M_clear 9 = .ok (.istore_n 1, 1) := by decide +kernel
theorem d_M_clear_10 : decode c_M_clear 10 = .ok (.aload_n 0, 1) := by decide +kernel
theorem d_M_clear_11 : decode c_M_clear 11 = .ok (.iconst 0, 1) := by decide +kernel
theorem d_M_clear_12 : decode c_M_clear 12 = .ok (.putfield 89, 3) := by decide +kernel
theorem d_M_clear_15 : decode c_M_clear 15 = .ok (.iload_n 1, 1) := by decide +kernel
theorem d_M_clear_16 : decode c_M_clear 16 = .ok (.ireturn, 1) := by decide +kernel
theorem d_M_fault_0 : decode c_M_fault 0 = .ok (.aload_n 0, 1) := by decide +kernel
theorem d_M_fault_1 : decode c_M_fault 1 = .ok (.iconst 0, 1) := by decide +kernel
theorem d_M_fault_2 : decode c_M_fault 2 = .ok (.putfield 73, 3) := by decide +kernel
theorem d_M_fault_5 : decode c_M_fault 5 = .ok (.aload_n 0, 1) := by decide +kernel
theorem d_M_fault_6 : decode c_M_fault 6 = .ok (.invokevirtual 151, 3) := by decide +kernel
theorem d_M_fault_9 : decode c_M_fault 9 = .ok (.ireturn, 1) := by decide +kernel
theorem d_M_faulty_0 : decode c_M_faulty 0 = .ok (.aload_n 0, 1) := by decide +kernel
theorem d_M_faulty_1 : decode c_M_faulty 1 = .ok (.iconst 0, 1) := by decide +kernel
theorem d_M_faulty_2 : decode c_M_faulty 2 = .ok (.putfield 73, 3) := by decide +kernel
theorem d_M_faulty_5 : decode c_M_faulty 5 = .ok (.aload_n 0, 1) := by decide +kernel
theorem d_M_faulty_6 : decode c_M_faulty 6 = .ok (.invokevirtual 151, 3) := by decide +kernel
theorem d_M_faulty_9 : decode c_M_faulty 9 = .ok (.iconst 1, 1) := by decide +kernel
theorem d_M_faulty_10 : decode c_M_faulty 10 = .ok (.if_icmp .le 10, 3) := by decide +kernel
theorem d_M_faulty_13 : decode c_M_faulty 13 = .ok (.aload_n 0, 1) := by decide +kernel
theorem d_M_faulty_14 : decode c_M_faulty 14 = .ok (.getfield 96, 3) := by decide +kernel
theorem d_M_faulty_17 : decode c_M_faulty 17 = .ok (.goto 4, 3) := by decide +kernel
theorem d_M_faulty_20 : decode c_M_faulty 20 = .ok (.iconst (-1), 1) := by decide +kernel
theorem d_M_faulty_21 : decode c_M_faulty 21 = .ok (.ireturn, 1) := by decide +kernel
theorem d_M_token_0 : decode c_M_token 0 = .ok (.aload_n 0, 1) := by decide +kernel
theorem d_M_token_1 : decode c_M_token 1 = .ok (.iload_n 1, 1) := by decide +kernel
theorem d_M_token_2 : decode c_M_token 2 = .ok (.ifCond .lt 9, 3) := by decide +kernel
theorem d_M_token_5 : decode c_M_token 5 = .ok (.iload_n 1, 1) := by decide +kernel
theorem d_M_token_6 : decode c_M_token 6 = .ok (.bipush 31, 2) := by decide +kernel
theorem d_M_token_8 : decode c_M_token 8 = .ok (.if_icmp .le 7, 3) := by decide +kernel
theorem d_M_token_11 : decode c_M_token 11 = .ok (.iconst 1, 1) := by decide +kernel
theorem d_M_token_12 : decode c_M_token 12 = .ok (.goto 17, 3) := by decide +kernel
theorem d_M_token_15 : decode c_M_token 15 = .ok (.aload_n 0, 1) := by decide +kernel
theorem d_M_token_16 : decode c_M_token 16 = .ok (.getfield 105, 3) := by decide +kernel
theorem d_M_token_19 : decode c_M_token 19 = .ok (.bipush 60, 2) := by decide +kernel
theorem d_M_token_21 : decode c_M_token 21 = .ok (.if_icmp .ne 7, 3) := by decide +kernel
theorem d_M_token_24 : decode c_M_token 24 = .ok (.iconst 2, 1) := by decide +kernel
theorem d_M_token_25 : decode c_M_token 25 = .ok (.goto 4, 3) := by decide +kernel
theorem d_M_token_28 : decode c_M_token 28 = .ok (.iconst 0, 1) := by decide +kernel
theorem d_M_token_29 : decode c_M_token 29 = .ok (.putfield 73, 3) := by decide +kernel
theorem d_M_token_32 : decode c_M_token 32 = .ok (.aload_n 0, 1) := by decide +kernel
theorem d_M_token_33 : decode c_M_token 33 = .ok (.getfield 73, 3) := by decide +kernel
theorem d_M_token_36 : decode c_M_token 36 = .ok (.ifCond .le 5, 3) := by decide +kernel
theorem d_M_token_39 : decode c_M_token 39 = .ok (.iconst 0, 1) := by decide +kernel
theorem d_M_token_40 : decode c_M_token 40 = .ok (.ireturn, 1) := by decide +kernel
theorem d_M_token_41 : decode c_M_token 41 = .ok (.aload_n 0, 1) := by decide +kernel
theorem d_M_token_42 : decode c_M_token 42 = .ok (.getfield 29, 3) := by decide +kernel
theorem d_M_token_45 : decode c_M_token 45 = .ok (.aload_n 0, 1) := by decide +kernel
theorem d_M_token_46 : decode c_M_token 46 = .ok (.getfield 105, 3) := by decide +kernel
theorem d_M_token_49 : decode c_M_token 49 = .ok (.iload_n 1, 1) := by decide +kernel
theorem d_M_token_50 : decode c_M_token 50 = .ok (.iastore, 1) := by decide +kernel
theorem d_M_token_51 : decode c_M_token 51 = .ok (.aload_n 0, 1) := by decide +kernel
theorem d_M_token_52 : decode c_M_token 52 = .ok (.dup, 1) := by decide +kernel
theorem d_M_token_53 : decode c_M_token 53 = .ok (.getfield 105, 3) := by decide +kernel
theorem d_M_token_56 : decode c_M_token 56 = .ok (.iconst 1, 1) := by decide +kernel
theorem d_M_token_57 : decode c_M_token 57 = .ok (.iadd, 1) := by decide +kernel
theorem d_M_token_58 : decode c_M_token 58 = .ok (.putfield 105, 3) := by decide +kernel
theorem d_M_token_61 : decode c_M_token 61 = .ok (.aload_n 0, 1) := by decide +kernel
theorem d_M_token_62 : decode c_M_token 62 = .ok (.getfield 105, 3) := by decide +kernel
theorem d_M_token_65 : decode c_M_token 65 = .ok (.ireturn, 1) := by decide +kernel
theorem d_M_keep_0 : decode c_M_keep 0 = .ok (.aload_n 0, 1) := by decide +kernel
theorem d_M_keep_1 : decode c_M_keep 1 = .ok (.iload_n 1, 1) := by decide +kernel
theorem d_M_keep_2 : decode c_M_keep 2 = .ok (.ifCond .lt 11, 3) := by decide +kernel
theorem d_M_keep_5 : decode c_M_keep 5 = .ok (.iload_n 1, 1) := by decide +kernel
theorem d_M_keep_6 : decode c_M_keep 6 = .ok (.aload_n 0, 1) := by decide +kernel
theorem d_M_keep_7 : decode c_M_keep 7 = .ok (.getfield 105, 3) := by decide +kernel
theorem d_M_keep_10 : decode c_M_keep 10 = .ok (.if_icmp .le 7, 3) := by decide +kernel
theorem d_M_keep_13 : decode c_M_keep 13 = .ok (.iconst 1, 1) := by decide +kernel
theorem d_M_keep_14 : decode c_M_keep 14 = .ok (.goto 4, 3) := by decide +kernel
theorem d_M_keep_17 : decode c_M_keep 17 = .ok (.iconst 0, 1) := by decide +kernel
theorem d_M_keep_18 : decode c_M_keep 18 = .ok (.putfield 73, 3) := by decide +kernel
theorem d_M_keep_21 : decode c_M_keep 21 = .ok (.aload_n 0, 1) := by decide +kernel
theorem d_M_keep_22 : decode c_M_keep 22 = .ok (.aload_n 0, 1) := by decide +kernel
theorem d_M_keep_23 : decode c_M_keep 23 = .ok (.getfield 73, 3) := by decide +kernel
theorem d_M_keep_26 : decode c_M_keep 26 = .ok (.ifCond .le 10, 3) := by decide +kernel
theorem d_M_keep_29 : decode c_M_keep 29 = .ok (.aload_n 0, 1) := by decide +kernel
theorem d_M_keep_30 : decode c_M_keep 30 = .ok (.getfield 105, 3) := by decide +kernel
theorem d_M_keep_33 : decode c_M_keep 33 = .ok (.goto 4, 3) := by decide +kernel
theorem d_M_keep_36 : decode c_M_keep 36 = .ok (.iload_n 1, 1) := by decide +kernel
theorem d_M_keep_37 : decode c_M_keep 37 = .ok (.putfield 105, 3) := by decide +kernel
theorem d_M_keep_40 : decode c_M_keep 40 = .ok (.return_, 1) := by decide +kernel
theorem d_M_nodes_0 : decode c_M_nodes 0 = .ok (.aload_n 0, 1) := by decide +kernel
theorem d_M_nodes_1 : decode c_M_nodes 1 = .ok (.iconst 0, 1) := by decide +kernel
theorem d_M_nodes_2 : decode c_M_nodes 2 = .ok (.putfield 73, 3) := by decide +kernel
theorem d_M_nodes_5 : decode c_M_nodes 5 = .ok (.aload_n 0, 1) := by decide +kernel
theorem d_M_nodes_6 : decode c_M_nodes 6 = .ok (.getfield 158, 3) := by decide +kernel
theorem d_M_nodes_9 : decode c_M_nodes 9 = .ok (.ireturn, 1) := by decide +kernel
theorem d_M_node_0 : decode c_M_node 0 = .ok (.aload_n 0, 1) := by decide +kernel
theorem d_M_node_1 : decode c_M_node 1 = .ok (.iload_n 1, 1) := by decide +kernel
theorem d_M_node_2 : decode c_M_node 2 = .ok (.ifCond .lt 11, 3) := by decide +kernel
theorem d_M_node_5 : decode c_M_node 5 = .ok (.iload_n 1, 1) := by decide +kernel
theorem d_M_node_6 : decode c_M_node 6 = .ok (.aload_n 0, 1) := by decide +kernel
theorem d_M_node_7 : decode c_M_node 7 = .ok (.getfield 158, 3) := by decide +kernel
theorem d_M_node_10 : decode c_M_node 10 = .ok (.if_icmp .lt 7, 3) := by decide +kernel
theorem d_M_node_13 : decode c_M_node 13 = .ok (.iconst 1, 1) := by decide +kernel
theorem d_M_node_14 : decode c_M_node 14 = .ok (.goto 18, 3) := by decide +kernel
theorem d_M_node_17 : decode c_M_node 17 = .ok (.iload_n 2, 1) := by decide +kernel
theorem d_M_node_18 : decode c_M_node 18 = .ok (.ifCond .lt 9, 3) := by decide +kernel
theorem d_M_node_21 : decode c_M_node 21 = .ok (.iload_n 2, 1) := by decide +kernel
theorem d_M_node_22 : decode c_M_node 22 = .ok (.bipush 6, 2) := by decide +kernel
theorem d_M_node_24 : decode c_M_node 24 = .ok (.if_icmp .le 7, 3) := by decide +kernel
theorem d_M_node_27 : decode c_M_node 27 = .ok (.iconst 2, 1) := by decide +kernel
theorem d_M_node_28 : decode c_M_node 28 = .ok (.goto 4, 3) := by decide +kernel
theorem d_M_node_31 : decode c_M_node 31 = .ok (.iconst 0, 1) := by decide +kernel
theorem d_M_node_32 : decode c_M_node 32 = .ok (.putfield 73, 3) := by decide +kernel
theorem d_M_node_35 : decode c_M_node 35 = .ok (.aload_n 0, 1) := by decide +kernel
theorem d_M_node_36 : decode c_M_node 36 = .ok (.getfield 73, 3) := by decide +kernel
theorem d_M_node_39 : decode c_M_node 39 = .ok (.ifCond .le 7, 3) := by decide +kernel
theorem d_M_node_42 : decode c_M_node 42 = .ok (.iconst 0, 1) := by decide +kernel
theorem d_M_node_43 : decode c_M_node 43 = .ok (.goto 14, 3) := by decide +kernel
theorem d_M_node_46 : decode c_M_node 46 = .ok (.aload_n 0, 1) := by decide +kernel
theorem d_M_node_47 : decode c_M_node 47 = .ok (.getfield 58, 3) := by decide +kernel
theorem d_M_node_50 : decode c_M_node 50 = .ok (.bipush 7, 2) := by decide +kernel
theorem d_M_node_52 : decode c_M_node 52 = .ok (.iload_n 1, 1) := by decide +kernel
theorem d_M_node_53 : decode c_M_node 53 = .ok (.imul, 1) := by decide +kernel
theorem d_M_node_54 : decode c_M_node 54 = .ok (.iload_n 2, 1) := by decide +kernel
theorem d_M_node_55 : decode c_M_node 55 = .ok (.iadd, 1) := by decide +kernel
theorem d_M_node_56 : decode c_M_node 56 = .ok (.iaload, 1) := by decide +kernel
theorem d_M_node_57 : decode c_M_node 57 = .ok (.ireturn, 1) := by decide +kernel
theorem d_M_reach_0 : decode c_M_reach 0 = .ok (.aload_n 0, 1) := by decide +kernel
theorem d_M_reach_1 : decode c_M_reach 1 = .ok (.aload_n 0, 1) := by decide +kernel
theorem d_M_reach_2 : decode c_M_reach 2 = .ok (.invokevirtual 151, 3) := by decide +kernel
theorem d_M_reach_5 : decode c_M_reach 5 = .ok (.ifCond .ne 7, 3) := by decide +kernel
theorem d_M_reach_8 : decode c_M_reach 8 = .ok (.iconst 0, 1) := by decide +kernel
theorem d_M_reach_9 : decode c_M_reach 9 = .ok (.goto 4, 3) := by decide +kernel
theorem d_M_reach_12 : decode c_M_reach 12 = .ok (.iconst 1, 1) := by decide +kernel
theorem d_M_reach_13 : decode c_M_reach 13 = .ok (.putfield 73, 3) := by decide +kernel
theorem d_M_reach_16 : decode c_M_reach 16 = .ok (.aload_n 0, 1) := by decide +kernel
theorem d_M_reach_17 : decode c_M_reach 17 = .ok (.getfield 73, 3) := by decide +kernel
theorem d_M_reach_20 : decode c_M_reach 20 = .ok (.ifCond .le 5, 3) := by decide +kernel
theorem d_M_reach_23 : decode c_M_reach 23 = .ok (.iconst 0, 1) := by decide +kernel
theorem d_M_reach_24 : decode c_M_reach 24 = .ok (.ireturn, 1) := by decide +kernel
theorem d_M_reach_25 : decode c_M_reach 25 = .ok (.aload_n 0, 1) := by decide +kernel
theorem d_M_reach_26 : decode c_M_reach 26 = .ok (.invokevirtual 155, 3) := by decide +kernel
theorem d_M_reach_29 : decode c_M_reach 29 = .ok (.aload_n 0, 1) := by decide +kernel
theorem d_M_reach_30 : decode c_M_reach 30 = .ok (.getfield 32, 3) := by decide +kernel
theorem d_M_reach_33 : decode c_M_reach 33 = .ok (.iconst 0, 1) := by decide +kernel
theorem d_M_reach_34 : decode c_M_reach 34 = .ok (.laload, 1) := by decide +kernel
theorem d_M_reach_35 : decode c_M_reach 35 = .ok (.aload_n 0, 1) := by decide +kernel
theorem d_M_reach_36 : decode c_M_reach 36 = .ok (.getfield 105, 3) := by decide +kernel
theorem d_M_reach_39 : decode c_M_reach 39 = .ok (.lshr, 1) := by decide +kernel
theorem d_M_reach_40 : decode c_M_reach 40 = .ok (.lconst 1, 1) := by decide +kernel
theorem d_M_reach_41 : decode c_M_reach 41 = .ok (.land, 1) := by decide +kernel
theorem d_M_reach_42 : decode c_M_reach 42 = .ok (.lconst 1, 1) := by decide +kernel
theorem d_M_reach_43 : decode c_M_reach 43 = .ok (.lcmp, 1) := by decide +kernel
theorem d_M_reach_44 : decode c_M_reach 44 = .ok (.ifCond .ne 12, 3) := by decide +kernel
theorem d_M_reach_47 : decode c_M_reach 47 = .ok (.aload_n 0, 1) := by decide +kernel
theorem d_M_reach_48 : decode c_M_reach 48 = .ok (.getfield 105, 3) := by decide +kernel
theorem d_M_reach_51 : decode c_M_reach 51 = .ok (.iconst 1, 1) := by decide +kernel
theorem d_M_reach_52 : decode c_M_reach 52 = .ok (.iadd, 1) := by decide +kernel
theorem d_M_reach_53 : decode c_M_reach 53 = .ok (.goto 9, 3) := by decide +kernel
theorem d_M_reach_56 : decode c_M_reach 56 = .ok (.aload_n 0, 1) := by decide +kernel
theorem d_M_reach_57 : decode c_M_reach 57 = .ok (.getfield 36, 3) := by decide +kernel
theorem d_M_reach_60 : decode c_M_reach 60 = .ok (.iconst 0, 1) := by decide +kernel
theorem d_M_reach_61 : decode c_M_reach 61 = .ok (.iaload, 1) := by decide +kernel
theorem d_M_reach_62 : decode c_M_reach 62 = .ok (.ireturn, 1) := by decide +kernel
theorem d_M_findNexts_0 : decode c_M_findNexts 0 = .ok (.iload_n 1, 1) := by decide +kernel
theorem d_M_findNexts_1 : decode c_M_findNexts 1 = .ok (.istore_n 2, 1) := by decide +kernel
theorem d_M_findNexts_2 : decode c_M_findNexts 2 = .ok (.iload_n 2, 1) := by decide +kernel
theorem d_M_findNexts_3 : decode c_M_findNexts 3 = .ok (.ifCond .lt 86, 3) := by decide +kernel
theorem d_M_findNexts_6 : decode c_M_findNexts 6 = .ok (.iconst 0, 1) := by decide +kernel
theorem d_M_findNexts_7 : decode c_M_findNexts 7 = .ok (.istore_n 3, 1) := by decide +kernel
theorem d_M_findNexts_8 : decode c_M_findNexts 8 = .ok (.iload_n 3, 1) := by decide +kernel
theorem d_M_findNexts_9 : decode c_M_findNexts 9 = .ok (.aload_n 0, 1) := by decide +kernel
theorem d_M_findNexts_10 : decode c_M_findNexts 10 = .ok (.getfield 89, 3) := by decide +kernel
theorem d_M_findNexts_13 : decode c_M_findNexts 13 = .ok (.if_icmp .ge 70, 3) := by decide +kernel
theorem d_M_findNexts_16 : decode c_M_findNexts 16 = .ok (.aload_n 0, 1) := by decide +kernel
theorem d_M_findNexts_17 : decode c_M_findNexts 17 = .ok (.getfield 26, 3) := by decide +kernel
theorem d_M_findNexts_20 : decode c_M_findNexts 20 = .ok (.iload_n 3, 1) := by decide +kernel
theorem d_M_findNexts_21 : decode c_M_findNexts 21 = .ok (.iaload, 1) := by decide +kernel
theorem d_M_findNexts_22 : decode c_M_findNexts 22 = .ok (.istore 4, 2) := by decide +kernel
theorem d_M_findNexts_24 : decode c_M_findNexts 24 = .ok (.lconst 0, 1) := by decide +kernel
theorem d_M_findNexts_25 : decode c_M_findNexts 25 = .ok (.lstore 5, 2) := by decide +kernel
theorem d_M_findNexts_27 : decode c_M_findNexts 27 = .ok (.iconst 0, 1) := by decide +kernel
theorem d_M_findNexts_28 : decode c_M_findNexts 28 = .ok (.istore 7, 2) := by decide +kernel
theorem d_M_findNexts_30 : decode c_M_findNexts 30 = .ok (.iload 7, 2) := by decide +kernel
theorem d_M_findNexts_32 : decode c_M_findNexts 32 = .ok (.aload_n 0, 1) := by decide +kernel
theorem d_M_findNexts_33 : decode c_M_findNexts 33 = .ok (.getfield 7, 3) := by decide +kernel
theorem d_M_findNexts_36 : decode c_M_findNexts 36 = .ok (.iload 4, 2) := by decide +kernel
theorem d_M_findNexts_38 : decode c_M_findNexts 38 = .ok (.iaload, 1) := by decide +kernel
theorem d_M_findNexts_39 : decode c_M_findNexts 39 = .ok (.if_icmp .ge 24, 3) := by decide +kernel
theorem d_M_findNexts_42 : decode c_M_findNexts 42 = .ok (.lload 5, 2) := by decide +kernel
theorem d_M_findNexts_44 : decode c_M_findNexts 44 = .ok (.aload_n 0, 1) := by decide +kernel
theorem d_M_findNexts_45 : decode c_M_findNexts 45 = .ok (.iload 4, 2) := by decide +kernel
theorem d_M_findNexts_47 : decode c_M_findNexts 47 = .ok (.iload 7, 2) := by decide +kernel
theorem d_M_findNexts_49 : decode c_M_findNexts 49 = .ok (.iload_n 2, 1) := by decide +kernel
theorem d_M_findNexts_50 : decode c_M_findNexts 50 = .ok (.iload_n 1, 1) := by decide +kernel
theorem d_M_findNexts_51 : decode c_M_findNexts 51 = .ok (.invokevirtual 171, 3) := by decide +kernel
theorem d_M_findNexts_54 : decode c_M_findNexts 54 = .ok (.lor, 1) := by decide +kernel
theorem d_M_findNexts_55 : decode c_M_findNexts 55 = .ok (.lstore 5, 2) := by decide +kernel
theorem d_M_findNexts_57 : decode c_M_findNexts 57 = .ok (.iinc 7 1, 3) := by decide +kernel
theorem d_M_findNexts_60 : decode c_M_findNexts 60 = .ok (.goto (-30), 3) := by decide +kernel
theorem d_M_findNexts_63 : decode c_M_findNexts 63 = .ok (.aload_n 0, 1) := by decide +kernel
theorem d_M_findNexts_64 : decode c_M_findNexts 64 = .ok (.getfield 39, 3) := by decide +kernel
theorem d_M_findNexts_67 : decode c_M_findNexts 67 = .ok (.bipush 61, 2) := by decide +kernel
theorem d_M_findNexts_69 : decode c_M_findNexts 69 = .ok (.iload 4, 2) := by decide +kernel
theorem d_M_findNexts_71 : decode c_M_findNexts 71 = .ok (.imul, 1) := by decide +kernel
theorem d_M_findNexts_72 : decode c_M_findNexts 72 = .ok (.iload_n 2, 1) := by decide +kernel
theorem d_M_findNexts_73 : decode c_M_findNexts 73 = .ok (.iadd, 1) := by decide +kernel
theorem d_M_findNexts_74 : decode c_M_findNexts 74 = .ok (.lload 5, 2) := by decide +kernel
theorem d_M_findNexts_76 : decode c_M_findNexts 76 = .ok (.lastore, 1) := by decide +kernel
theorem d_M_findNexts_77 : decode c_M_findNexts 77 = .ok (.iinc 3 1, 3) := by decide +kernel
theorem d_M_findNexts_80 : decode c_M_findNexts 80 = .ok (.goto (-72), 3) := by decide +kernel
theorem d_M_findNexts_83 : decode c_M_findNexts 83 = .ok (.iinc 2 (-1), 3) := by decide +kernel
theorem d_M_findNexts_86 : decode c_M_findNexts 86 = .ok (.goto (-84), 3) := by decide +kernel
theorem d_M_findNexts_89 : decode c_M_findNexts 89 = .ok (.return_, 1) := by decide +kernel
theorem d_M_nextAlong_0 : decode c_M_nextAlong 0 = .ok (.lconst 0, 1) := by decide +kernel
theorem d_M_nextAlong_1 : decode c_M_nextAlong 1 = .ok (.lstore 5, 2) := by decide +kernel
theorem d_M_nextAlong_3 : decode c_M_nextAlong 3 = .ok (.lconst 1, 1) := by decide +kernel
theorem d_M_nextAlong_4 : decode c_M_nextAlong 4 = .ok (.iload_n 3, 1) := by decide +kernel
theorem d_M_nextAlong_5 : decode c_M_nextAlong 5 = .ok (.lshl, 1) := by decide +kernel
theorem d_M_nextAlong_6 : decode c_M_nextAlong 6 = .ok (.lstore 7, 2) := by decide +kernel
theorem d_M_nextAlong_8 : decode c_M_nextAlong 8 = .ok (.iconst 0, 1) := by decide +kernel
theorem d_M_nextAlong_9 : decode c_M_nextAlong 9 = .ok (.istore 9, 2) := by decide +kernel
theorem d_M_nextAlong_11 : decode c_M_nextAlong 11 = .ok (.iload 9, 2) := by decide +kernel
theorem d_M_nextAlong_13 : decode c_M_nextAlong 13 = .ok (.aload_n 0, 1) := by decide +kernel
theorem d_M_nextAlong_14 : decode c_M_nextAlong 14 = .ok (.iload_n 1, 1) := by decide +kernel
theorem d_M_nextAlong_15 : decode c_M_nextAlong 15 = .ok (.iload_n 2, 1) := by decide +kernel
theorem d_M_nextAlong_16 : decode c_M_nextAlong 16 = .ok (.invokevirtual 77, 3) := by decide +kernel
theorem d_M_nextAlong_19 : decode c_M_nextAlong 19 = .ok (.if_icmp .ge 103, 3) := by decide +kernel
theorem d_M_nextAlong_22 : decode c_M_nextAlong 22 = .ok (.aload_n 0, 1) := by decide +kernel
theorem d_M_nextAlong_23 : decode c_M_nextAlong 23 = .ok (.iload_n 1, 1) := by decide +kernel
theorem d_M_nextAlong_24 : decode c_M_nextAlong 24 = .ok (.iload_n 2, 1) := by decide +kernel
theorem d_M_nextAlong_25 : decode c_M_nextAlong 25 = .ok (.iload 9, 2) := by decide +kernel
theorem d_M_nextAlong_27 : decode c_M_nextAlong 27 = .ok (.invokevirtual 81, 3) := by decide +kernel
theorem d_M_nextAlong_30 : decode c_M_nextAlong 30 = .ok (.istore 10, 2) := by decide +kernel
theorem d_M_nextAlong_32 : decode c_M_nextAlong 32 = .ok (.iload_n 3, 1) := by decide +kernel
theorem d_M_nextAlong_33 : decode c_M_nextAlong 33 = .ok (.istore 11, 2) := by decide +kernel
theorem d_M_nextAlong_35 : decode c_M_nextAlong 35 = .ok (.iload 11, 2) := by decide +kernel
theorem d_M_nextAlong_37 : decode c_M_nextAlong 37 = .ok (.iload 4, 2) := by decide +kernel
theorem d_M_nextAlong_39 : decode c_M_nextAlong 39 = .ok (.if_icmp .gt 67, 3) := by decide +kernel
theorem d_M_nextAlong_42 : decode c_M_nextAlong 42 = .ok (.lload 7, 2) := by decide +kernel
theorem d_M_nextAlong_44 : decode c_M_nextAlong 44 = .ok (.iload 11, 2) := by decide +kernel
theorem d_M_nextAlong_46 : decode c_M_nextAlong 46 = .ok (.lshr, 1) := by decide +kernel
theorem d_M_nextAlong_47 : decode c_M_nextAlong 47 = .ok (.lconst 1, 1) := by decide +kernel
theorem d_M_nextAlong_48 : decode c_M_nextAlong 48 = .ok (.land, 1) := by decide +kernel
theorem d_M_nextAlong_49 : decode c_M_nextAlong 49 = .ok (.lconst 1, 1) := by decide +kernel
theorem d_M_nextAlong_50 : decode c_M_nextAlong 50 = .ok (.lcmp, 1) := by decide +kernel
theorem d_M_nextAlong_51 : decode c_M_nextAlong 51 = .ok (.ifCond .ne 49, 3) := by decide +kernel
theorem d_M_nextAlong_54 : decode c_M_nextAlong 54 = .ok (.lload 5, 2) := by decide +kernel
theorem d_M_nextAlong_56 : decode c_M_nextAlong 56 = .ok (.iload 10, 2) := by decide +kernel
theorem d_M_nextAlong_58 : decode c_M_nextAlong 58 = .ok (.invokestatic 85, 3) := by decide +kernel
theorem d_M_nextAlong_61 : decode c_M_nextAlong 61 = .ok (.ifCond .eq 21, 3) := by decide +kernel
theorem d_M_nextAlong_64 : decode c_M_nextAlong 64 = .ok (.aload_n 0, 1) := by decide +kernel
theorem d_M_nextAlong_65 : decode c_M_nextAlong 65 = .ok (.getfield 39, 3) := by decide +kernel
theorem d_M_nextAlong_68 : decode c_M_nextAlong 68 = .ok (.bipush 61, 2) := by decide +kernel
theorem d_M_nextAlong_70 : decode c_M_nextAlong 70 = .ok (.iconst (-1), 1) := by decide +kernel
theorem d_M_nextAlong_71 : decode c_M_nextAlong 71 = .ok (.iload 10, 2) := by decide +kernel
theorem d_M_nextAlong_73 : decode c_M_nextAlong 73 = .ok (.isub, 1) := by decide +kernel
theorem d_M_nextAlong_74 : decode c_M_nextAlong 74 = .ok (.imul, 1) := by decide +kernel
theorem d_M_nextAlong_75 : decode c_M_nextAlong 75 = .ok (.iload 11, 2) := by decide +kernel
theorem d_M_nextAlong_77 : decode c_M_nextAlong 77 = .ok (.iadd, 1) := by decide +kernel
theorem d_M_nextAlong_78 : decode c_M_nextAlong 78 = .ok (.laload, 1) := by decide +kernel
theorem d_M_nextAlong_79 : decode c_M_nextAlong 79 = .ok (.goto 18, 3) := by decide +kernel
theorem d_M_nextAlong_82 : decode c_M_nextAlong 82 = .ok (.iload 11, 2) := by decide +kernel
theorem d_M_nextAlong_84 : decode c_M_nextAlong 84 = .ok (.iload 4, 2) := by decide +kernel
theorem d_M_nextAlong_86 : decode c_M_nextAlong 86 = .ok (.if_icmp .ne 10, 3) := by decide +kernel
theorem d_M_nextAlong_89 : decode c_M_nextAlong 89 = .ok (.lconst 1, 1) := by decide +kernel
theorem d_M_nextAlong_90 : decode c_M_nextAlong 90 = .ok (.iload 10, 2) := by decide +kernel
theorem d_M_nextAlong_92 : decode c_M_nextAlong 92 = .ok (.lshl, 1) := by decide +kernel
theorem d_M_nextAlong_93 : decode c_M_nextAlong 93 = .ok (.goto 4, 3) := by decide +kernel
theorem d_M_nextAlong_96 : decode c_M_nextAlong 96 = .ok (.lconst 0, 1) := by decide +kernel
theorem d_M_nextAlong_97 : decode c_M_nextAlong 97 = .ok (.lor, 1) := by decide +kernel
theorem d_M_nextAlong_98 : decode c_M_nextAlong 98 = .ok (.lstore 5, 2) := by decide +kernel
theorem d_M_nextAlong_100 : decode c_M_nextAlong 100 = .ok (.iinc 11 1, 3) := by decide +kernel
theorem d_M_nextAlong_103 : decode c_M_nextAlong 103 = .ok (.goto (-68), 3) := by decide +kernel
theorem d_M_nextAlong_106 : decode c_M_nextAlong 106 = .ok (.aload_n 0, 1) := by decide +kernel
theorem d_M_nextAlong_107 : decode c_M_nextAlong 107 = .ok (.lload 7, 2) := by decide +kernel
theorem d_M_nextAlong_109 : decode c_M_nextAlong 109 = .ok (.iload 10, 2) := by decide +kernel
theorem d_M_nextAlong_111 : decode c_M_nextAlong 111 = .ok (.invokevirtual 111, 3) := by decide +kernel
theorem d_M_nextAlong_114 : decode c_M_nextAlong 114 = .ok (.lstore 7, 2) := by decide +kernel
theorem d_M_nextAlong_116 : decode c_M_nextAlong 116 = .ok (.iinc 9 1, 3) := by decide +kernel
theorem d_M_nextAlong_119 : decode c_M_nextAlong 119 = .ok (.goto (-108), 3) := by decide +kernel
theorem d_M_nextAlong_122 : decode c_M_nextAlong 122 = .ok (.lload 5, 2) := by decide +kernel
theorem d_M_nextAlong_124 : decode c_M_nextAlong 124 = .ok (.lreturn, 1) := by decide +kernel
theorem d_M_expected_0 : decode c_M_expected 0 = .ok (.aload_n 0, 1) := by decide +kernel
theorem d_M_expected_1 : decode c_M_expected 1 = .ok (.aload_n 0, 1) := by decide +kernel
theorem d_M_expected_2 : decode c_M_expected 2 = .ok (.invokevirtual 151, 3) := by decide +kernel
theorem d_M_expected_5 : decode c_M_expected 5 = .ok (.ifCond .eq 7, 3) := by decide +kernel
theorem d_M_expected_8 : decode c_M_expected 8 = .ok (.iconst 1, 1) := by decide +kernel
theorem d_M_expected_9 : decode c_M_expected 9 = .ok (.goto 20, 3) := by decide +kernel
theorem d_M_expected_12 : decode c_M_expected 12 = .ok (.iload_n 1, 1) := by decide +kernel
theorem d_M_expected_13 : decode c_M_expected 13 = .ok (.ifCond .lt 11, 3) := by decide +kernel
theorem d_M_expected_16 : decode c_M_expected 16 = .ok (.iload_n 1, 1) := by decide +kernel
theorem d_M_expected_17 : decode c_M_expected 17 = .ok (.aload_n 0, 1) := by decide +kernel
theorem d_M_expected_18 : decode c_M_expected 18 = .ok (.getfield 105, 3) := by decide +kernel
theorem d_M_expected_21 : decode c_M_expected 21 = .ok (.if_icmp .le 7, 3) := by decide +kernel
theorem d_M_expected_24 : decode c_M_expected 24 = .ok (.iconst 2, 1) := by decide +kernel
theorem d_M_expected_25 : decode c_M_expected 25 = .ok (.goto 4, 3) := by decide +kernel
theorem d_M_expected_28 : decode c_M_expected 28 = .ok (.iconst 0, 1) := by decide +kernel
theorem d_M_expected_29 : decode c_M_expected 29 = .ok (.putfield 73, 3) := by decide +kernel
theorem d_M_expected_32 : decode c_M_expected 32 = .ok (.aload_n 0, 1) := by decide +kernel
theorem d_M_expected_33 : decode c_M_expected 33 = .ok (.getfield 73, 3) := by decide +kernel
theorem d_M_expected_36 : decode c_M_expected 36 = .ok (.ifCond .le 5, 3) := by decide +kernel
theorem d_M_expected_39 : decode c_M_expected 39 = .ok (.lconst 0, 1) := by decide +kernel
theorem d_M_expected_40 : decode c_M_expected 40 = .ok (.lreturn, 1) := by decide +kernel
theorem d_M_expected_41 : decode c_M_expected 41 = .ok (.aload_n 0, 1) := by decide +kernel
theorem d_M_expected_42 : decode c_M_expected 42 = .ok (.invokevirtual 155, 3) := by decide +kernel
theorem d_M_expected_45 : decode c_M_expected 45 = .ok (.aload_n 0, 1) := by decide +kernel
theorem d_M_expected_46 : decode c_M_expected 46 = .ok (.iload_n 1, 1) := by decide +kernel
theorem d_M_expected_47 : decode c_M_expected 47 = .ok (.invokevirtual 175, 3) := by decide +kernel
theorem d_M_expected_50 : decode c_M_expected 50 = .ok (.aload_n 0, 1) := by decide +kernel
theorem d_M_expected_51 : decode c_M_expected 51 = .ok (.getfield 39, 3) := by decide +kernel
theorem d_M_expected_54 : decode c_M_expected 54 = .ok (.iconst 0, 1) := by decide +kernel
theorem d_M_expected_55 : decode c_M_expected 55 = .ok (.laload, 1) := by decide +kernel
theorem d_M_expected_56 : decode c_M_expected 56 = .ok (.aload_n 0, 1) := by decide +kernel
theorem d_M_expected_57 : decode c_M_expected 57 = .ok (.getfield 32, 3) := by decide +kernel
theorem d_M_expected_60 : decode c_M_expected 60 = .ok (.iconst 0, 1) := by decide +kernel
theorem d_M_expected_61 : decode c_M_expected 61 = .ok (.laload, 1) := by decide +kernel
theorem d_M_expected_62 : decode c_M_expected 62 = .ok (.iload_n 1, 1) := by decide +kernel
theorem d_M_expected_63 : decode c_M_expected 63 = .ok (.lshr, 1) := by decide +kernel
theorem d_M_expected_64 : decode c_M_expected 64 = .ok (.lconst 1, 1) := by decide +kernel
theorem d_M_expected_65 : decode c_M_expected 65 = .ok (.land, 1) := by decide +kernel
theorem d_M_expected_66 : decode c_M_expected 66 = .ok (.lconst 1, 1) := by decide +kernel
theorem d_M_expected_67 : decode c_M_expected 67 = .ok (.lcmp, 1) := by decide +kernel
theorem d_M_expected_68 : decode c_M_expected 68 = .ok (.ifCond .ne 9, 3) := by decide +kernel
theorem d_M_expected_71 : decode c_M_expected 71 = .ok (.ldc2_w 179, 3) := by decide +kernel
theorem d_M_expected_74 : decode c_M_expected 74 = .ok (.goto 4, 3) := by decide +kernel
theorem d_M_expected_77 : decode c_M_expected 77 = .ok (.lconst 0, 1) := by decide +kernel
theorem d_M_expected_78 : decode c_M_expected 78 = .ok (.lor, 1) := by decide +kernel
theorem d_M_expected_79 : decode c_M_expected 79 = .ok (.lreturn, 1) := by decide +kernel
theorem d_M_firstOf_0 : decode c_M_firstOf 0 = .ok (.lconst 0, 1) := by decide +kernel
theorem d_M_firstOf_1 : decode c_M_firstOf 1 = .ok (.lstore 4, 2) := by decide +kernel
theorem d_M_firstOf_3 : decode c_M_firstOf 3 = .ok (.iconst 1, 1) := by decide +kernel
theorem d_M_firstOf_4 : decode c_M_firstOf 4 = .ok (.istore 6, 2) := by decide +kernel
theorem d_M_firstOf_6 : decode c_M_firstOf 6 = .ok (.iload_n 3, 1) := by decide +kernel
theorem d_M_firstOf_7 : decode c_M_firstOf 7 = .ok (.istore 7, 2) := by decide +kernel
theorem d_M_firstOf_9 : decode c_M_firstOf 9 = .ok (.iload 7, 2) := by decide +kernel
theorem d_M_firstOf_11 : decode c_M_firstOf 11 = .ok (.aload_n 0, 1) := by decide +kernel
theorem d_M_firstOf_12 : decode c_M_firstOf 12 = .ok (.iload_n 1, 1) := by decide +kernel
theorem d_M_firstOf_13 : decode c_M_firstOf 13 = .ok (.iload_n 2, 1) := by decide +kernel
theorem d_M_firstOf_14 : decode c_M_firstOf 14 = .ok (.invokevirtual 77, 3) := by decide +kernel
theorem d_M_firstOf_17 : decode c_M_firstOf 17 = .ok (.if_icmp .ge 80, 3) := by decide +kernel
theorem d_M_firstOf_20 : decode c_M_firstOf 20 = .ok (.iload 6, 2) := by decide +kernel
theorem d_M_firstOf_22 : decode c_M_firstOf 22 = .ok (.ifCond .eq 75, 3) := by decide +kernel
theorem d_M_firstOf_25 : decode c_M_firstOf 25 = .ok (.aload_n 0, 1) := by decide +kernel
theorem d_M_firstOf_26 : decode c_M_firstOf 26 = .ok (.iload_n 1, 1) := by decide +kernel
theorem d_M_firstOf_27 : decode c_M_firstOf 27 = .ok (.iload_n 2, 1) := by decide +kernel
theorem d_M_firstOf_28 : decode c_M_firstOf 28 = .ok (.iload 7, 2) := by decide +kernel
theorem d_M_firstOf_30 : decode c_M_firstOf 30 = .ok (.invokevirtual 81, 3) := by decide +kernel
theorem d_M_firstOf_33 : decode c_M_firstOf 33 = .ok (.istore 8, 2) := by decide +kernel
theorem d_M_firstOf_35 : decode c_M_firstOf 35 = .ok (.lload 4, 2) := by decide +kernel
theorem d_M_firstOf_37 : decode c_M_firstOf 37 = .ok (.iload 8, 2) := by decide +kernel
theorem d_M_firstOf_39 : decode c_M_firstOf 39 = .ok (.invokestatic 85, 3) := by decide +kernel
theorem d_M_firstOf_42 : decode c_M_firstOf 42 = .ok (.ifCond .eq 15, 3) := by decide +kernel
theorem d_M_firstOf_45 : decode c_M_firstOf 45 = .ok (.aload_n 0, 1) := by decide +kernel
theorem d_M_firstOf_46 : decode c_M_firstOf 46 = .ok (.getfield 52, 3) := by decide +kernel
theorem d_M_firstOf_49 : decode c_M_firstOf 49 = .ok (.iconst (-1), 1) := by decide +kernel
theorem d_M_firstOf_50 : decode c_M_firstOf 50 = .ok (.iload 8, 2) := by decide +kernel
theorem d_M_firstOf_52 : decode c_M_firstOf 52 = .ok (.isub, 1) := by decide +kernel
theorem d_M_firstOf_53 : decode c_M_firstOf 53 = .ok (.laload, 1) := by decide +kernel
theorem d_M_firstOf_54 : decode c_M_firstOf 54 = .ok (.goto 7, 3) := by decide +kernel
theorem d_M_firstOf_57 : decode c_M_firstOf 57 = .ok (.lconst 1, 1) := by decide +kernel
theorem d_M_firstOf_58 : decode c_M_firstOf 58 = .ok (.iload 8, 2) := by decide +kernel
theorem d_M_firstOf_60 : decode c_M_firstOf 60 = .ok (.lshl, 1) := by decide +kernel
theorem d_M_firstOf_61 : decode c_M_firstOf 61 = .ok (.lor, 1) := by decide +kernel
theorem d_M_firstOf_62 : decode c_M_firstOf 62 = .ok (.lstore 4, 2) := by decide +kernel
theorem d_M_firstOf_64 : decode c_M_firstOf 64 = .ok (.iload 8, 2) := by decide +kernel
theorem d_M_firstOf_66 : decode c_M_firstOf 66 = .ok (.invokestatic 85, 3) := by decide +kernel
theorem d_M_firstOf_69 : decode c_M_firstOf 69 = .ok (.ifCond .eq 19, 3) := by decide +kernel
theorem d_M_firstOf_72 : decode c_M_firstOf 72 = .ok (.aload_n 0, 1) := by decide +kernel
theorem d_M_firstOf_73 : decode c_M_firstOf 73 = .ok (.getfield 19, 3) := by decide +kernel
theorem d_M_firstOf_76 : decode c_M_firstOf 76 = .ok (.iconst (-1), 1) := by decide +kernel
theorem d_M_firstOf_77 : decode c_M_firstOf 77 = .ok (.iload 8, 2) := by decide +kernel
theorem d_M_firstOf_79 : decode c_M_firstOf 79 = .ok (.isub, 1) := by decide +kernel
theorem d_M_firstOf_80 : decode c_M_firstOf 80 = .ok (.baload, 1) := by decide +kernel
theorem d_M_firstOf_81 : decode c_M_firstOf 81 = .ok (.ifCond .eq 7, 3) := by decide +kernel
theorem d_M_firstOf_84 : decode c_M_firstOf 84 = .ok (.iconst 1, 1) := by decide +kernel
theorem d_M_firstOf_85 : decode c_M_firstOf 85 = .ok (.goto 4, 3) := by decide +kernel
theorem d_M_firstOf_88 : decode c_M_firstOf 88 = .ok (.iconst 0, 1) := by decide +kernel
theorem d_M_firstOf_89 : decode c_M_firstOf 89 = .ok (.istore 6, 2) := by decide +kernel
theorem d_M_firstOf_91 : decode c_M_firstOf 91 = .ok (.iinc 7 1, 3) := by decide +kernel
theorem d_M_firstOf_94 : decode c_M_firstOf 94 = .ok (.goto (-85), 3) := by decide +kernel
theorem d_M_firstOf_97 : decode c_M_firstOf 97 = .ok (.lload 4, 2) := by decide +kernel
theorem d_M_firstOf_99 : decode c_M_firstOf 99 = .ok (.lreturn, 1) := by decide +kernel
theorem d_M_findSets_0 : decode c_M_findSets 0 = .ok (.iconst 0, 1) := by decide +kernel
theorem d_M_findSets_1 : decode c_M_findSets 1 = .ok (.istore_n 1, 1) := by decide +kernel
theorem d_M_findSets_2 : decode c_M_findSets 2 = .ok (.iload_n 1, 1) := by decide +kernel
theorem d_M_findSets_3 : decode c_M_findSets 3 = .ok (.bipush 16, 2) := by decide +kernel
theorem d_M_findSets_5 : decode c_M_findSets 5 = .ok (.if_icmp .ge 33, 3) := by decide +kernel
theorem d_M_findSets_8 : decode c_M_findSets 8 = .ok (.aload_n 0, 1) := by decide +kernel
theorem d_M_findSets_9 : decode c_M_findSets 9 = .ok (.getfield 52, 3) := by decide +kernel
theorem d_M_findSets_12 : decode c_M_findSets 12 = .ok (.iload_n 1, 1) := by decide +kernel
theorem d_M_findSets_13 : decode c_M_findSets 13 = .ok (.lconst 0, 1) := by decide +kernel
theorem d_M_findSets_14 : decode c_M_findSets 14 = .ok (.lastore, 1) := by decide +kernel
theorem d_M_findSets_15 : decode c_M_findSets 15 = .ok (.aload_n 0, 1) := by decide +kernel
theorem d_M_findSets_16 : decode c_M_findSets 16 = .ok (.getfield 55, 3) := by decide +kernel
theorem d_M_findSets_19 : decode c_M_findSets 19 = .ok (.iload_n 1, 1) := by decide +kernel
theorem d_M_findSets_20 : decode c_M_findSets 20 = .ok (.iload_n 1, 1) := by decide +kernel
theorem d_M_findSets_21 : decode c_M_findSets 21 = .ok (.ifCond .ne 9, 3) := by decide +kernel
theorem d_M_findSets_24 : decode c_M_findSets 24 = .ok (.ldc2_w 179, 3) := by decide +kernel
theorem d_M_findSets_27 : decode c_M_findSets 27 = .ok (.goto 4, 3) := by decide +kernel
theorem d_M_findSets_30 : decode c_M_findSets 30 = .ok (.lconst 0, 1) := by decide +kernel
theorem d_M_findSets_31 : decode c_M_findSets 31 = .ok (.lastore, 1) := by decide +kernel
theorem d_M_findSets_32 : decode c_M_findSets 32 = .ok (.iinc 1 1, 3) := by decide +kernel
theorem d_M_findSets_35 : decode c_M_findSets 35 = .ok (.goto (-33), 3) := by decide +kernel
theorem d_M_findSets_38 : decode c_M_findSets 38 = .ok (.iconst 0, 1) := by decide +kernel
theorem d_M_findSets_39 : decode c_M_findSets 39 = .ok (.istore_n 1, 1) := by decide +kernel
theorem d_M_findSets_40 : decode c_M_findSets 40 = .ok (.iload_n 1, 1) := by decide +kernel
theorem d_M_findSets_41 : decode c_M_findSets 41 = .ok (.aload_n 0, 1) := by decide +kernel
theorem d_M_findSets_42 : decode c_M_findSets 42 = .ok (.getfield 89, 3) := by decide +kernel
theorem d_M_findSets_45 : decode c_M_findSets 45 = .ok (.if_icmp .ge 63, 3) := by decide +kernel
theorem d_M_findSets_48 : decode c_M_findSets 48 = .ok (.iconst 0, 1) := by decide +kernel
theorem d_M_findSets_49 : decode c_M_findSets 49 = .ok (.istore_n 2, 1) := by decide +kernel
theorem d_M_findSets_50 : decode c_M_findSets 50 = .ok (.iload_n 2, 1) := by decide +kernel
theorem d_M_findSets_51 : decode c_M_findSets 51 = .ok (.aload_n 0, 1) := by decide +kernel
theorem d_M_findSets_52 : decode c_M_findSets 52 = .ok (.getfield 89, 3) := by decide +kernel
theorem d_M_findSets_55 : decode c_M_findSets 55 = .ok (.if_icmp .ge 47, 3) := by decide +kernel
theorem d_M_findSets_58 : decode c_M_findSets 58 = .ok (.iconst 0, 1) := by decide +kernel
theorem d_M_findSets_59 : decode c_M_findSets 59 = .ok (.istore_n 3, 1) := by decide +kernel
theorem d_M_findSets_60 : decode c_M_findSets 60 = .ok (.iload_n 3, 1) := by decide +kernel
theorem d_M_findSets_61 : decode c_M_findSets 61 = .ok (.aload_n 0, 1) := by decide +kernel
theorem d_M_findSets_62 : decode c_M_findSets 62 = .ok (.getfield 7, 3) := by decide +kernel
theorem d_M_findSets_65 : decode c_M_findSets 65 = .ok (.iload_n 2, 1) := by decide +kernel
theorem d_M_findSets_66 : decode c_M_findSets 66 = .ok (.iaload, 1) := by decide +kernel
theorem d_M_findSets_67 : decode c_M_findSets 67 = .ok (.if_icmp .ge 29, 3) := by decide +kernel
theorem d_M_findSets_70 : decode c_M_findSets 70 = .ok (.aload_n 0, 1) := by decide +kernel
theorem d_M_findSets_71 : decode c_M_findSets 71 = .ok (.getfield 52, 3) := by decide +kernel
theorem d_M_findSets_74 : decode c_M_findSets 74 = .ok (.iload_n 2, 1) := by decide +kernel
theorem d_M_findSets_75 : decode c_M_findSets 75 = .ok (.aload_n 0, 1) := by decide +kernel
theorem d_M_findSets_76 : decode c_M_findSets 76 = .ok (.getfield 52, 3) := by decide +kernel
theorem d_M_findSets_79 : decode c_M_findSets 79 = .ok (.iload_n 2, 1) := by decide +kernel
theorem d_M_findSets_80 : decode c_M_findSets 80 = .ok (.laload, 1) := by decide +kernel
theorem d_M_findSets_81 : decode c_M_findSets 81 = .ok (.aload_n 0, 1) := by decide +kernel
theorem d_M_findSets_82 : decode c_M_findSets 82 = .ok (.iload_n 2, 1) := by decide +kernel
theorem d_M_findSets_83 : decode c_M_findSets 83 = .ok (.iload_n 3, 1) := by decide +kernel
theorem d_M_findSets_84 : decode c_M_findSets 84 = .ok (.iconst 0, 1) := by decide +kernel
theorem d_M_findSets_85 : decode c_M_findSets 85 = .ok (.invokevirtual 181, 3) := by decide +kernel
theorem d_M_findSets_88 : decode c_M_findSets 88 = .ok (.lor, 1) := by decide +kernel
theorem d_M_findSets_89 : decode c_M_findSets 89 = .ok (.lastore, 1) := by decide +kernel
theorem d_M_findSets_90 : decode c_M_findSets 90 = .ok (.iinc 3 1, 3) := by decide +kernel
theorem d_M_findSets_93 : decode c_M_findSets 93 = .ok (.goto (-33), 3) := by decide +kernel
theorem d_M_findSets_96 : decode c_M_findSets 96 = .ok (.iinc 2 1, 3) := by decide +kernel
theorem d_M_findSets_99 : decode c_M_findSets 99 = .ok (.goto (-49), 3) := by decide +kernel
theorem d_M_findSets_102 : decode c_M_findSets 102 = .ok (.iinc 1 1, 3) := by decide +kernel
theorem d_M_findSets_105 : decode c_M_findSets 105 = .ok (.goto (-65), 3) := by decide +kernel
theorem d_M_findSets_108 : decode c_M_findSets 108 = .ok (.iconst 0, 1) := by decide +kernel
theorem d_M_findSets_109 : decode c_M_findSets 109 = .ok (.istore_n 1, 1) := by decide +kernel
theorem d_M_findSets_110 : decode c_M_findSets 110 = .ok (.iload_n 1, 1) := by decide +kernel
theorem d_M_findSets_111 : decode c_M_findSets 111 = .ok (.aload_n 0, 1) := by decide +kernel
theorem d_M_findSets_112 : decode c_M_findSets 112 = .ok (.getfield 89, 3) := by decide +kernel
theorem d_M_findSets_115 : decode c_M_findSets 115 = .ok (.if_icmp .gt 49, 3) := by decide +kernel
theorem d_M_findSets_118 : decode c_M_findSets 118 = .ok (.iconst 0, 1) := by decide +kernel
theorem d_M_findSets_119 : decode c_M_findSets 119 = .ok (.istore_n 2, 1) := by decide +kernel
theorem d_M_findSets_120 : decode c_M_findSets 120 = .ok (.iload_n 2, 1) := by decide +kernel
theorem d_M_findSets_121 : decode c_M_findSets 121 = .ok (.aload_n 0, 1) := by decide +kernel
theorem d_M_findSets_122 : decode c_M_findSets 122 = .ok (.getfield 89, 3) := by decide +kernel
theorem d_M_findSets_125 : decode c_M_findSets 125 = .ok (.if_icmp .ge 33, 3) := by decide +kernel
theorem d_M_findSets_128 : decode c_M_findSets 128 = .ok (.iconst 0, 1) := by decide +kernel
theorem d_M_findSets_129 : decode c_M_findSets 129 = .ok (.istore_n 3, 1) := by decide +kernel
theorem d_M_findSets_130 : decode c_M_findSets 130 = .ok (.iload_n 3, 1) := by decide +kernel
theorem d_M_findSets_131 : decode c_M_findSets 131 = .ok (.aload_n 0, 1) := by decide +kernel
theorem d_M_findSets_132 : decode c_M_findSets 132 = .ok (.getfield 7, 3) := by decide +kernel
theorem d_M_findSets_135 : decode c_M_findSets 135 = .ok (.iload_n 2, 1) := by decide +kernel
theorem d_M_findSets_136 : decode c_M_findSets 136 = .ok (.iaload, 1) := by decide +kernel
theorem d_M_findSets_137 : decode c_M_findSets 137 = .ok (.if_icmp .ge 15, 3) := by decide +kernel
theorem d_M_findSets_140 : decode c_M_findSets 140 = .ok (.aload_n 0, 1) := by decide +kernel
theorem d_M_findSets_141 : decode c_M_findSets 141 = .ok (.iload_n 2, 1) := by decide +kernel
theorem d_M_findSets_142 : decode c_M_findSets 142 = .ok (.iload_n 3, 1) := by decide +kernel
theorem d_M_findSets_143 : decode c_M_findSets 143 = .ok (.invokevirtual 185, 3) := by decide +kernel
theorem d_M_findSets_146 : decode c_M_findSets 146 = .ok (.iinc 3 1, 3) := by decide +kernel
theorem d_M_findSets_149 : decode c_M_findSets 149 = .ok (.goto (-19), 3) := by decide +kernel
theorem d_M_findSets_152 : decode c_M_findSets 152 = .ok (.iinc 2 1, 3) := by decide +kernel
theorem d_M_findSets_155 : decode c_M_findSets 155 = .ok (.goto (-35), 3) := by decide +kernel
theorem d_M_findSets_158 : decode c_M_findSets 158 = .ok (.iinc 1 1, 3) := by decide +kernel
theorem d_M_findSets_161 : decode c_M_findSets 161 = .ok (.goto (-51), 3) := by decide +kernel
theorem d_M_findSets_164 : decode c_M_findSets 164 = .ok (.return_, 1) := by decide +kernel
theorem d_M_followAlong_0 : decode c_M_followAlong 0 = .ok (.iconst 0, 1) := by decide +kernel
theorem d_M_followAlong_1 : decode c_M_followAlong 1 = .ok (.istore_n 3, 1) := by decide +kernel
theorem d_M_followAlong_2 : decode c_M_followAlong 2 = .ok (.iload_n 3, 1) := by decide +kernel
theorem d_M_followAlong_3 : decode c_M_followAlong 3 = .ok (.aload_n 0, 1) := by decide +kernel
theorem d_M_followAlong_4 : decode c_M_followAlong 4 = .ok (.iload_n 1, 1) := by decide +kernel
theorem d_M_followAlong_5 : decode c_M_followAlong 5 = .ok (.iload_n 2, 1) := by decide +kernel
theorem d_M_followAlong_6 : decode c_M_followAlong 6 = .ok (.invokevirtual 77, 3) := by decide +kernel
theorem d_M_followAlong_9 : decode c_M_followAlong 9 = .ok (.if_icmp .ge 91, 3) := by decide +kernel
theorem d_M_followAlong_12 : decode c_M_followAlong 12 = .ok (.aload_n 0, 1) := by decide +kernel
theorem d_M_followAlong_13 : decode c_M_followAlong 13 = .ok (.iload_n 1, 1) := by decide +kernel
theorem d_M_followAlong_14 : decode c_M_followAlong 14 = .ok (.iload_n 2, 1) := by decide +kernel
theorem d_M_followAlong_15 : decode c_M_followAlong 15 = .ok (.iload_n 3, 1) := by decide +kernel
theorem d_M_followAlong_16 : decode c_M_followAlong 16 = .ok (.invokevirtual 81, 3) := by decide +kernel
theorem d_M_followAlong_19 : decode c_M_followAlong 19 = .ok (.istore 4, 2) := by decide +kernel
theorem d_M_followAlong_21 : decode c_M_followAlong 21 = .ok (.iload 4, 2) := by decide +kernel
theorem d_M_followAlong_23 : decode c_M_followAlong 23 = .ok (.invokestatic 85, 3) := by decide +kernel
theorem d_M_followAlong_26 : decode c_M_followAlong 26 = .ok (.ifCond .eq 68, 3) := by decide +kernel
theorem d_M_followAlong_29 : decode c_M_followAlong 29 = .ok (.aload_n 0, 1) := by decide +kernel
theorem d_M_followAlong_30 : decode c_M_followAlong 30 = .ok (.getfield 55, 3) := by decide +kernel
theorem d_M_followAlong_33 : decode c_M_followAlong 33 = .ok (.iconst (-1), 1) := by decide +kernel
theorem d_M_followAlong_34 : decode c_M_followAlong 34 = .ok (.iload 4, 2) := by decide +kernel
theorem d_M_followAlong_36 : decode c_M_followAlong 36 = .ok (.isub, 1) := by decide +kernel
theorem d_M_followAlong_37 : decode c_M_followAlong 37 = .ok (.aload_n 0, 1) := by decide +kernel
theorem d_M_followAlong_38 : decode c_M_followAlong 38 = .ok (.getfield 55, 3) := by decide +kernel
theorem d_M_followAlong_41 : decode c_M_followAlong 41 = .ok (.iconst (-1), 1) := by decide +kernel
theorem d_M_followAlong_42 : decode c_M_followAlong 42 = .ok (.iload 4, 2) := by decide +kernel
theorem d_M_followAlong_44 : decode c_M_followAlong 44 = .ok (.isub, 1) := by decide +kernel
theorem d_M_followAlong_45 : decode c_M_followAlong 45 = .ok (.laload, 1) := by decide +kernel
theorem d_M_followAlong_46 : decode c_M_followAlong 46 = .ok (.aload_n 0, 1) := by decide +kernel
theorem d_M_followAlong_47 : decode c_M_followAlong 47 = .ok (.iload_n 1, 1) := by decide +kernel
theorem d_M_followAlong_48 : decode c_M_followAlong 48 = .ok (.iload_n 2, 1) := by decide +kernel
theorem d_M_followAlong_49 : decode c_M_followAlong 49 = .ok (.iload_n 3, 1) := by decide +kernel
theorem d_M_followAlong_50 : decode c_M_followAlong 50 = .ok (.iconst 1, 1) := by decide +kernel
theorem d_M_followAlong_51 : decode c_M_followAlong 51 = .ok (.iadd, 1) := by decide +kernel
theorem d_M_followAlong_52 : decode c_M_followAlong 52 = .ok (.invokevirtual 181, 3) := by decide +kernel
theorem d_M_followAlong_55 : decode c_M_followAlong 55 = .ok (.lor, 1) := by decide +kernel
theorem d_M_followAlong_56 : decode c_M_followAlong 56 = .ok (.lastore, 1) := by decide +kernel
theorem d_M_followAlong_57 : decode c_M_followAlong 57 = .ok (.aload_n 0, 1) := by decide +kernel
theorem d_M_followAlong_58 : decode c_M_followAlong 58 = .ok (.iload_n 1, 1) := by decide +kernel
theorem d_M_followAlong_59 : decode c_M_followAlong 59 = .ok (.iload_n 2, 1) := by decide +kernel
theorem d_M_followAlong_60 : decode c_M_followAlong 60 = .ok (.iload_n 3, 1) := by decide +kernel
theorem d_M_followAlong_61 : decode c_M_followAlong 61 = .ok (.iconst 1, 1) := by decide +kernel
theorem d_M_followAlong_62 : decode c_M_followAlong 62 = .ok (.iadd, 1) := by decide +kernel
theorem d_M_followAlong_63 : decode c_M_followAlong 63 = .ok (.invokevirtual 92, 3) := by decide +kernel
theorem d_M_followAlong_66 : decode c_M_followAlong 66 = .ok (.ifCond .eq 28, 3) := by decide +kernel
theorem d_M_followAlong_69 : decode c_M_followAlong 69 = .ok (.aload_n 0, 1) := by decide +kernel
theorem d_M_followAlong_70 : decode c_M_followAlong 70 = .ok (.getfield 55, 3) := by decide +kernel
theorem d_M_followAlong_73 : decode c_M_followAlong 73 = .ok (.iconst (-1), 1) := by decide +kernel
theorem d_M_followAlong_74 : decode c_M_followAlong 74 = .ok (.iload 4, 2) := by decide +kernel
theorem d_M_followAlong_76 : decode c_M_followAlong 76 = .ok (.isub, 1) := by decide +kernel
theorem d_M_followAlong_77 : decode c_M_followAlong 77 = .ok (.aload_n 0, 1) := by decide +kernel
theorem d_M_followAlong_78 : decode c_M_followAlong 78 = .ok (.getfield 55, 3) := by decide +kernel
theorem d_M_followAlong_81 : decode c_M_followAlong 81 = .ok (.iconst (-1), 1) := by decide +kernel
theorem d_M_followAlong_82 : decode c_M_followAlong 82 = .ok (.iload 4, 2) := by decide +kernel
theorem d_M_followAlong_84 : decode c_M_followAlong 84 = .ok (.isub, 1) := by decide +kernel
theorem d_M_followAlong_85 : decode c_M_followAlong 85 = .ok (.laload, 1) := by decide +kernel
theorem d_M_followAlong_86 : decode c_M_followAlong 86 = .ok (.aload_n 0, 1) := by decide +kernel
theorem d_M_followAlong_87 : decode c_M_followAlong 87 = .ok (.getfield 55, 3) := by decide +kernel
theorem d_M_followAlong_90 : decode c_M_followAlong 90 = .ok (.iload_n 1, 1) := by decide +kernel
theorem d_M_followAlong_91 : decode c_M_followAlong 91 = .ok (.laload, 1) := by decide +kernel
theorem d_M_followAlong_92 : decode c_M_followAlong 92 = .ok (.lor, 1) := by decide +kernel
theorem d_M_followAlong_93 : decode c_M_followAlong 93 = .ok (.lastore, 1) := by decide +kernel
theorem d_M_followAlong_94 : decode c_M_followAlong 94 = .ok (.iinc 3 1, 3) := by decide +kernel
theorem d_M_followAlong_97 : decode c_M_followAlong 97 = .ok (.goto (-95), 3) := by decide +kernel
theorem d_M_followAlong_100 : decode c_M_followAlong 100 = .ok (.return_, 1) := by decide +kernel
theorem d_M_look_0 : decode c_M_look 0 = .ok (.aload_n 0, 1) := by decide +kernel
theorem d_M_look_1 : decode c_M_look 1 = .ok (.aload_n 0, 1) := by decide +kernel
theorem d_M_look_2 : decode c_M_look 2 = .ok (.invokevirtual 151, 3) := by decide +kernel
theorem d_M_look_5 : decode c_M_look 5 = .ok (.ifCond .eq 7, 3) := by decide +kernel
theorem d_M_look_8 : decode c_M_look 8 = .ok (.iconst 1, 1) := by decide +kernel
theorem d_M_look_9 : decode c_M_look 9 = .ok (.goto 16, 3) := by decide +kernel
theorem d_M_look_12 : decode c_M_look 12 = .ok (.aload_n 0, 1) := by decide +kernel
theorem d_M_look_13 : decode c_M_look 13 = .ok (.iload_n 1, 1) := by decide +kernel
theorem d_M_look_14 : decode c_M_look 14 = .ok (.invokevirtual 168, 3) := by decide +kernel
theorem d_M_look_17 : decode c_M_look 17 = .ok (.ifCond .ne 7, 3) := by decide +kernel
theorem d_M_look_20 : decode c_M_look 20 = .ok (.iconst 2, 1) := by decide +kernel
theorem d_M_look_21 : decode c_M_look 21 = .ok (.goto 4, 3) := by decide +kernel
theorem d_M_look_24 : decode c_M_look 24 = .ok (.iconst 0, 1) := by decide +kernel
theorem d_M_look_25 : decode c_M_look 25 = .ok (.putfield 73, 3) := by decide +kernel
theorem d_M_look_28 : decode c_M_look 28 = .ok (.aload_n 0, 1) := by decide +kernel
theorem d_M_look_29 : decode c_M_look 29 = .ok (.getfield 73, 3) := by decide +kernel
theorem d_M_look_32 : decode c_M_look 32 = .ok (.ifCond .ne 7, 3) := by decide +kernel
theorem d_M_look_35 : decode c_M_look 35 = .ok (.aload_n 0, 1) := by decide +kernel
theorem d_M_look_36 : decode c_M_look 36 = .ok (.invokevirtual 189, 3) := by decide +kernel
theorem d_M_look_39 : decode c_M_look 39 = .ok (.return_, 1) := by decide +kernel
theorem d_M_isNothing_0 : decode c_M_isNothing 0 = .ok (.aload_n 0, 1) := by decide +kernel
theorem d_M_isNothing_1 : decode c_M_isNothing 1 = .ok (.iload_n 1, 1) := by decide +kernel
theorem d_M_isNothing_2 : decode c_M_isNothing 2 = .ok (.invokevirtual 192, 3) := by decide +kernel
theorem d_M_isNothing_5 : decode c_M_isNothing 5 = .ok (.aload_n 0, 1) := by decide +kernel
theorem d_M_isNothing_6 : decode c_M_isNothing 6 = .ok (.getfield 73, 3) := by decide +kernel
theorem d_M_isNothing_9 : decode c_M_isNothing 9 = .ok (.ifCond .ne 16, 3) := by decide +kernel
theorem d_M_isNothing_12 : decode c_M_isNothing 12 = .ok (.aload_n 0, 1) := by decide +kernel
theorem d_M_isNothing_13 : decode c_M_isNothing 13 = .ok (.getfield 19, 3) := by decide +kernel
theorem d_M_isNothing_16 : decode c_M_isNothing 16 = .ok (.iload_n 1, 1) := by decide +kernel
theorem d_M_isNothing_17 : decode c_M_isNothing 17 = .ok (.baload, 1) := by decide +kernel
theorem d_M_isNothing_18 : decode c_M_isNothing 18 = .ok (.ifCond .eq 7, 3) := by decide +kernel
theorem d_M_isNothing_21 : decode c_M_isNothing 21 = .ok (.iconst 1, 1) := by decide +kernel
theorem d_M_isNothing_22 : decode c_M_isNothing 22 = .ok (.goto 4, 3) := by decide +kernel
theorem d_M_isNothing_25 : decode c_M_isNothing 25 = .ok (.iconst 0, 1) := by decide +kernel
theorem d_M_isNothing_26 : decode c_M_isNothing 26 = .ok (.ireturn, 1) := by decide +kernel
theorem d_M_first_0 : decode c_M_first 0 = .ok (.aload_n 0, 1) := by decide +kernel
theorem d_M_first_1 : decode c_M_first 1 = .ok (.iload_n 1, 1) := by decide +kernel
theorem d_M_first_2 : decode c_M_first 2 = .ok (.invokevirtual 192, 3) := by decide +kernel
theorem d_M_first_5 : decode c_M_first 5 = .ok (.aload_n 0, 1) := by decide +kernel
theorem d_M_first_6 : decode c_M_first 6 = .ok (.getfield 73, 3) := by decide +kernel
theorem d_M_first_9 : decode c_M_first 9 = .ok (.ifCond .le 7, 3) := by decide +kernel
theorem d_M_first_12 : decode c_M_first 12 = .ok (.lconst 0, 1) := by decide +kernel
theorem d_M_first_13 : decode c_M_first 13 = .ok (.goto 9, 3) := by decide +kernel
theorem d_M_first_16 : decode c_M_first 16 = .ok (.aload_n 0, 1) := by decide +kernel
theorem d_M_first_17 : decode c_M_first 17 = .ok (.getfield 52, 3) := by decide +kernel
theorem d_M_first_20 : decode c_M_first 20 = .ok (.iload_n 1, 1) := by decide +kernel
theorem d_M_first_21 : decode c_M_first 21 = .ok (.laload, 1) := by decide +kernel
theorem d_M_first_22 : decode c_M_first 22 = .ok (.lreturn, 1) := by decide +kernel
theorem d_M_following_0 : decode c_M_following 0 = .ok (.aload_n 0, 1) := by decide +kernel
theorem d_M_following_1 : decode c_M_following 1 = .ok (.iload_n 1, 1) := by decide +kernel
theorem d_M_following_2 : decode c_M_following 2 = .ok (.invokevirtual 192, 3) := by decide +kernel
theorem d_M_following_5 : decode c_M_following 5 = .ok (.aload_n 0, 1) := by decide +kernel
theorem d_M_following_6 : decode c_M_following 6 = .ok (.getfield 73, 3) := by decide +kernel
theorem d_M_following_9 : decode c_M_following 9 = .ok (.ifCond .le 7, 3) := by decide +kernel
theorem d_M_following_12 : decode c_M_following 12 = .ok (.lconst 0, 1) := by decide +kernel
theorem d_M_following_13 : decode c_M_following 13 = .ok (.goto 9, 3) := by decide +kernel
theorem d_M_following_16 : decode c_M_following 16 = .ok (.aload_n 0, 1) := by decide +kernel
theorem d_M_following_17 : decode c_M_following 17 = .ok (.getfield 55, 3) := by decide +kernel
theorem d_M_following_20 : decode c_M_following 20 = .ok (.iload_n 1, 1) := by decide +kernel
theorem d_M_following_21 : decode c_M_following 21 = .ok (.laload, 1) := by decide +kernel
theorem d_M_following_22 : decode c_M_following 22 = .ok (.lreturn, 1) := by decide +kernel
theorem d_M_lets_0 : decode c_M_lets 0 = .ok (.aload_n 0, 1) := by decide +kernel
theorem d_M_lets_1 : decode c_M_lets 1 = .ok (.iload_n 1, 1) := by decide +kernel
theorem d_M_lets_2 : decode c_M_lets 2 = .ok (.invokevirtual 192, 3) := by decide +kernel
theorem d_M_lets_5 : decode c_M_lets 5 = .ok (.aload_n 0, 1) := by decide +kernel
theorem d_M_lets_6 : decode c_M_lets 6 = .ok (.aload_n 0, 1) := by decide +kernel
theorem d_M_lets_7 : decode c_M_lets 7 = .ok (.getfield 73, 3) := by decide +kernel
theorem d_M_lets_10 : decode c_M_lets 10 = .ok (.ifCond .le 10, 3) := by decide +kernel
theorem d_M_lets_13 : decode c_M_lets 13 = .ok (.aload_n 0, 1) := by decide +kernel
theorem d_M_lets_14 : decode c_M_lets 14 = .ok (.getfield 73, 3) := by decide +kernel
theorem d_M_lets_17 : decode c_M_lets 17 = .ok (.goto 18, 3) := by decide +kernel
theorem d_M_lets_20 : decode c_M_lets 20 = .ok (.iload_n 2, 1) := by decide +kernel
theorem d_M_lets_21 : decode c_M_lets 21 = .ok (.ifCond .lt 9, 3) := by decide +kernel
theorem d_M_lets_24 : decode c_M_lets 24 = .ok (.iload_n 2, 1) := by decide +kernel
theorem d_M_lets_25 : decode c_M_lets 25 = .ok (.bipush 32, 2) := by decide +kernel
theorem d_M_lets_27 : decode c_M_lets 27 = .ok (.if_icmp .le 7, 3) := by decide +kernel
theorem d_M_lets_30 : decode c_M_lets 30 = .ok (.iconst 3, 1) := by decide +kernel
theorem d_M_lets_31 : decode c_M_lets 31 = .ok (.goto 4, 3) := by decide +kernel
theorem d_M_lets_34 : decode c_M_lets 34 = .ok (.iconst 0, 1) := by decide +kernel
theorem d_M_lets_35 : decode c_M_lets 35 = .ok (.putfield 73, 3) := by decide +kernel
theorem d_M_lets_38 : decode c_M_lets 38 = .ok (.aload_n 0, 1) := by decide +kernel
theorem d_M_lets_39 : decode c_M_lets 39 = .ok (.getfield 73, 3) := by decide +kernel
theorem d_M_lets_42 : decode c_M_lets 42 = .ok (.ifCond .le 5, 3) := by decide +kernel
theorem d_M_lets_45 : decode c_M_lets 45 = .ok (.iconst 0, 1) := by decide +kernel
theorem d_M_lets_46 : decode c_M_lets 46 = .ok (.ireturn, 1) := by decide +kernel
theorem d_M_lets_47 : decode c_M_lets 47 = .ok (.iconst 0, 1) := by decide +kernel
theorem d_M_lets_48 : decode c_M_lets 48 = .ok (.istore_n 3, 1) := by decide +kernel
theorem d_M_lets_49 : decode c_M_lets 49 = .ok (.iconst 0, 1) := by decide +kernel
theorem d_M_lets_50 : decode c_M_lets 50 = .ok (.istore 4, 2) := by decide +kernel
theorem d_M_lets_52 : decode c_M_lets 52 = .ok (.iload 4, 2) := by decide +kernel
theorem d_M_lets_54 : decode c_M_lets 54 = .ok (.aload_n 0, 1) := by decide +kernel
theorem d_M_lets_55 : decode c_M_lets 55 = .ok (.getfield 7, 3) := by decide +kernel
theorem d_M_lets_58 : decode c_M_lets 58 = .ok (.iload_n 1, 1) := by decide +kernel
theorem d_M_lets_59 : decode c_M_lets 59 = .ok (.iaload, 1) := by decide +kernel
theorem d_M_lets_60 : decode c_M_lets 60 = .ok (.if_icmp .ge 75, 3) := by decide +kernel
theorem d_M_lets_63 : decode c_M_lets 63 = .ok (.aload_n 0, 1) := by decide +kernel
theorem d_M_lets_64 : decode c_M_lets 64 = .ok (.iload_n 1, 1) := by decide +kernel
theorem d_M_lets_65 : decode c_M_lets 65 = .ok (.iload 4, 2) := by decide +kernel
theorem d_M_lets_67 : decode c_M_lets 67 = .ok (.iconst 0, 1) := by decide +kernel
theorem d_M_lets_68 : decode c_M_lets 68 = .ok (.invokevirtual 181, 3) := by decide +kernel
theorem d_M_lets_71 : decode c_M_lets 71 = .ok (.iload_n 2, 1) := by decide +kernel
theorem d_M_lets_72 : decode c_M_lets 72 = .ok (.lshr, 1) := by decide +kernel
theorem d_M_lets_73 : decode c_M_lets 73 = .ok (.lconst 1, 1) := by decide +kernel
theorem d_M_lets_74 : decode c_M_lets 74 = .ok (.land, 1) := by decide +kernel
theorem d_M_lets_75 : decode c_M_lets 75 = .ok (.lconst 1, 1) := by decide +kernel
theorem d_M_lets_76 : decode c_M_lets 76 = .ok (.lcmp, 1) := by decide +kernel
theorem d_M_lets_77 : decode c_M_lets 77 = .ok (.ifCond .eq 29, 3) := by decide +kernel
theorem d_M_lets_80 : decode c_M_lets 80 = .ok (.aload_n 0, 1) := by decide +kernel
theorem d_M_lets_81 : decode c_M_lets 81 = .ok (.iload_n 1, 1) := by decide +kernel
theorem d_M_lets_82 : decode c_M_lets 82 = .ok (.iload 4, 2) := by decide +kernel
theorem d_M_lets_84 : decode c_M_lets 84 = .ok (.iconst 0, 1) := by decide +kernel
theorem d_M_lets_85 : decode c_M_lets 85 = .ok (.invokevirtual 92, 3) := by decide +kernel
theorem d_M_lets_88 : decode c_M_lets 88 = .ok (.ifCond .eq 22, 3) := by decide +kernel
theorem d_M_lets_91 : decode c_M_lets 91 = .ok (.aload_n 0, 1) := by decide +kernel
theorem d_M_lets_92 : decode c_M_lets 92 = .ok (.getfield 55, 3) := by decide +kernel
theorem d_M_lets_95 : decode c_M_lets 95 = .ok (.iload_n 1, 1) := by decide +kernel
theorem d_M_lets_96 : decode c_M_lets 96 = .ok (.laload, 1) := by decide +kernel
theorem d_M_lets_97 : decode c_M_lets 97 = .ok (.iload_n 2, 1) := by decide +kernel
theorem d_M_lets_98 : decode c_M_lets 98 = .ok (.lshr, 1) := by decide +kernel
theorem d_M_lets_99 : decode c_M_lets 99 = .ok (.lconst 1, 1) := by decide +kernel
theorem d_M_lets_100 : decode c_M_lets 100 = .ok (.land, 1) := by decide +kernel
theorem d_M_lets_101 : decode c_M_lets 101 = .ok (.lconst 1, 1) := by decide +kernel
theorem d_M_lets_102 : decode c_M_lets 102 = .ok (.lcmp, 1) := by decide +kernel
theorem d_M_lets_103 : decode c_M_lets 103 = .ok (.ifCond .ne 7, 3) := by decide +kernel
theorem d_M_lets_106 : decode c_M_lets 106 = .ok (.iconst 1, 1) := by decide +kernel
theorem d_M_lets_107 : decode c_M_lets 107 = .ok (.goto 4, 3) := by decide +kernel
theorem d_M_lets_110 : decode c_M_lets 110 = .ok (.iconst 0, 1) := by decide +kernel
theorem d_M_lets_111 : decode c_M_lets 111 = .ok (.istore 5, 2) := by decide +kernel
theorem d_M_lets_113 : decode c_M_lets 113 = .ok (.iload 5, 2) := by decide +kernel
theorem d_M_lets_115 : decode c_M_lets 115 = .ok (.ifCond .eq 12, 3) := by decide +kernel
theorem d_M_lets_118 : decode c_M_lets 118 = .ok (.iload_n 3, 1) := by decide +kernel
theorem d_M_lets_119 : decode c_M_lets 119 = .ok (.iconst 1, 1) := by decide +kernel
theorem d_M_lets_120 : decode c_M_lets 120 = .ok (.iload 4, 2) := by decide +kernel
theorem d_M_lets_122 : decode c_M_lets 122 = .ok (.ishl, 1) := by decide +kernel
theorem d_M_lets_123 : decode c_M_lets 123 = .ok (.ior, 1) := by decide +kernel
theorem d_M_lets_124 : decode c_M_lets 124 = .ok (.goto 4, 3) := by decide +kernel
theorem d_M_lets_127 : decode c_M_lets 127 = .ok (.iload_n 3, 1) := by decide +kernel
theorem d_M_lets_128 : decode c_M_lets 128 = .ok (.istore_n 3, 1) := by decide +kernel
theorem d_M_lets_129 : decode c_M_lets 129 = .ok (.iinc 4 1, 3) := by decide +kernel
theorem d_M_lets_132 : decode c_M_lets 132 = .ok (.goto (-80), 3) := by decide +kernel
theorem d_M_lets_135 : decode c_M_lets 135 = .ok (.iload_n 3, 1) := by decide +kernel
theorem d_M_lets_136 : decode c_M_lets 136 = .ok (.ireturn, 1) := by decide +kernel
theorem d_M_count_0 : decode c_M_count 0 = .ok (.aload_n 0, 1) := by decide +kernel
theorem d_M_count_1 : decode c_M_count 1 = .ok (.iload_n 1, 1) := by decide +kernel
theorem d_M_count_2 : decode c_M_count 2 = .ok (.ifCond .lt 9, 3) := by decide +kernel
theorem d_M_count_5 : decode c_M_count 5 = .ok (.iload_n 1, 1) := by decide +kernel
theorem d_M_count_6 : decode c_M_count 6 = .ok (.bipush 17, 2) := by decide +kernel
theorem d_M_count_8 : decode c_M_count 8 = .ok (.if_icmp .le 7, 3) := by decide +kernel
theorem d_M_count_11 : decode c_M_count 11 = .ok (.iconst 1, 1) := by decide +kernel
theorem d_M_count_12 : decode c_M_count 12 = .ok (.goto 4, 3) := by decide +kernel
theorem d_M_count_15 : decode c_M_count 15 = .ok (.iconst 0, 1) := by decide +kernel
theorem d_M_count_16 : decode c_M_count 16 = .ok (.putfield 73, 3) := by decide +kernel
theorem d_M_count_19 : decode c_M_count 19 = .ok (.aload_n 0, 1) := by decide +kernel
theorem d_M_count_20 : decode c_M_count 20 = .ok (.getfield 73, 3) := by decide +kernel
theorem d_M_count_23 : decode c_M_count 23 = .ok (.ifCond .le 5, 3) := by decide +kernel
theorem d_M_count_26 : decode c_M_count 26 = .ok (.iconst 0, 1) := by decide +kernel
theorem d_M_count_27 : decode c_M_count 27 = .ok (.ireturn, 1) := by decide +kernel
theorem d_M_count_28 : decode c_M_count 28 = .ok (.iload_n 1, 1) := by decide +kernel
theorem d_M_count_29 : decode c_M_count 29 = .ok (.ifCond .ne 10, 3) := by decide +kernel
theorem d_M_count_32 : decode c_M_count 32 = .ok (.aload_n 0, 1) := by decide +kernel
theorem d_M_count_33 : decode c_M_count 33 = .ok (.getfield 89, 3) := by decide +kernel
theorem d_M_count_36 : decode c_M_count 36 = .ok (.goto 37, 3) := by decide +kernel
theorem d_M_count_39 : decode c_M_count 39 = .ok (.iload_n 1, 1) := by decide +kernel
theorem d_M_count_40 : decode c_M_count 40 = .ok (.iconst 1, 1) := by decide +kernel
theorem d_M_count_41 : decode c_M_count 41 = .ok (.if_icmp .ne 10, 3) := by decide +kernel
theorem d_M_count_44 : decode c_M_count 44 = .ok (.aload_n 0, 1) := by decide +kernel
theorem d_M_count_45 : decode c_M_count 45 = .ok (.getfield 105, 3) := by decide +kernel
theorem d_M_count_48 : decode c_M_count 48 = .ok (.goto 25, 3) := by decide +kernel
theorem d_M_count_51 : decode c_M_count 51 = .ok (.iload_n 1, 1) := by decide +kernel
theorem d_M_count_52 : decode c_M_count 52 = .ok (.iconst 2, 1) := by decide +kernel
theorem d_M_count_53 : decode c_M_count 53 = .ok (.isub, 1) := by decide +kernel
theorem d_M_count_54 : decode c_M_count 54 = .ok (.aload_n 0, 1) := by decide +kernel
theorem d_M_count_55 : decode c_M_count 55 = .ok (.getfield 89, 3) := by decide +kernel
theorem d_M_count_58 : decode c_M_count 58 = .ok (.if_icmp .ge 14, 3) := by decide +kernel
theorem d_M_count_61 : decode c_M_count 61 = .ok (.aload_n 0, 1) := by decide +kernel
theorem d_M_count_62 : decode c_M_count 62 = .ok (.getfield 7, 3) := by decide +kernel
theorem d_M_count_65 : decode c_M_count 65 = .ok (.iload_n 1, 1) := by decide +kernel
theorem d_M_count_66 : decode c_M_count 66 = .ok (.iconst 2, 1) := by decide +kernel
theorem d_M_count_67 : decode c_M_count 67 = .ok (.isub, 1) := by decide +kernel
theorem d_M_count_68 : decode c_M_count 68 = .ok (.iaload, 1) := by decide +kernel
theorem d_M_count_69 : decode c_M_count 69 = .ok (.goto 4, 3) := by decide +kernel
theorem d_M_count_72 : decode c_M_count 72 = .ok (.iconst 0, 1) := by decide +kernel
theorem d_M_count_73 : decode c_M_count 73 = .ok (.ireturn, 1) := by decide +kernel
