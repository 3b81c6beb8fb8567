/-! decode rows, by program -/
theorem d_M_init_0 : decode c_M_init 0 = .ok (.aload_n 0, 1) := by decide +kernel
theorem d_M_init_1 : decode c_M_init 1 = .ok (.invokespecial 1, 3) := by decide +kernel
theorem d_M_init_4 : decode c_M_init 4 = .ok (.aload_n 0, 1) := by decide +kernel
theorem d_M_init_5 : decode c_M_init 5 = .ok (.bipush 16, 2) := by decide +kernel
theorem d_M_init_7 : decode c_M_init 7 = .ok (.newarray .int, 2) := by decide +kernel
theorem d_M_init_9 : decode c_M_init 9 = .ok (.putfield 7, 3) := by decide +kernel
theorem d_M_init_12 : decode c_M_init 12 = .ok (.aload_n 0, 1) := by decide +kernel
theorem d_M_init_13 : decode c_M_init 13 = .ok (.sipush 128, 3) := by decide +kernel
theorem d_M_init_16 : decode c_M_init 16 = .ok (.newarray .int, 2) := by decide +kernel
theorem d_M_init_18 : decode c_M_init 18 = .ok (.putfield 13, 3) := by decide +kernel
theorem d_M_init_21 : decode c_M_init 21 = .ok (.aload_n 0, 1) := by decide +kernel
theorem d_M_init_22 : decode c_M_init 22 = .ok (.sipush 1024, 3) := by decide +kernel
theorem d_M_init_25 : decode c_M_init 25 = .ok (.newarray .int, 2) := by decide +kernel
theorem d_M_init_27 : decode c_M_init 27 = .ok (.putfield 16, 3) := by decide +kernel
theorem d_M_init_30 : decode c_M_init 30 = .ok (.aload_n 0, 1) := by decide +kernel
theorem d_M_init_31 : decode c_M_init 31 = .ok (.bipush 16, 2) := by decide +kernel
theorem d_M_init_33 : decode c_M_init 33 = .ok (.newarray .boolean, 2) := by decide +kernel
theorem d_M_init_35 : decode c_M_init 35 = .ok (.putfield 19, 3) := by decide +kernel
theorem d_M_init_38 : decode c_M_init 38 = .ok (.aload_n 0, 1) := by decide +kernel
theorem d_M_init_39 : decode c_M_init 39 = .ok (.sipush 256, 3) := by decide +kernel
theorem d_M_init_42 : decode c_M_init 42 = .ok (.newarray .boolean, 2) := by decide +kernel
theorem d_M_init_44 : decode c_M_init 44 = .ok (.putfield 23, 3) := by decide +kernel
theorem d_M_init_47 : decode c_M_init 47 = .ok (.aload_n 0, 1) := by decide +kernel
theorem d_M_init_48 : decode c_M_init 48 = .ok (.bipush 16, 2) := by decide +kernel
theorem d_M_init_50 : decode c_M_init 50 = .ok (.newarray .int, 2) := by decide +kernel
theorem d_M_init_52 : decode c_M_init 52 = .ok (.putfield 26, 3) := by decide +kernel
theorem d_M_init_55 : decode c_M_init 55 = .ok (.aload_n 0, 1) := by decide +kernel
theorem d_M_init_56 : decode c_M_init 56 = .ok (.bipush 60, 2) := by decide +kernel
theorem d_M_init_58 : decode c_M_init 58 = .ok (.newarray .int, 2) := by decide +kernel
theorem d_M_init_60 : decode c_M_init 60 = .ok (.putfield 29, 3) := by decide +kernel
theorem d_M_init_63 : decode c_M_init 63 = .ok (.aload_n 0, 1) := by decide +kernel
theorem d_M_init_64 : decode c_M_init 64 = .ok (.sipush 976, 3) := by decide +kernel
theorem d_M_init_67 : decode c_M_init 67 = .ok (.newarray .long, 2) := by decide +kernel
theorem d_M_init_69 : decode c_M_init 69 = .ok (.putfield 32, 3) := by decide +kernel
theorem d_M_init_72 : decode c_M_init 72 = .ok (.aload_n 0, 1) := by decide +kernel
theorem d_M_init_73 : decode c_M_init 73 = .ok (.sipush 976, 3) := by decide +kernel
theorem d_M_init_76 : decode c_M_init 76 = .ok (.newarray .int, 2) := by decide +kernel
theorem d_M_init_78 : decode c_M_init 78 = .ok (.putfield 36, 3) := by decide +kernel
theorem d_M_init_81 : decode c_M_init 81 = .ok (.aload_n 0, 1) := by decide +kernel
theorem d_M_init_82 : decode c_M_init 82 = .ok (.sipush 976, 3) := by decide +kernel
theorem d_M_init_85 : decode c_M_init 85 = .ok (.newarray .long, 2) := by decide +kernel
theorem d_M_init_87 : decode c_M_init 87 = .ok (.putfield 39, 3) := by decide +kernel
theorem d_M_init_90 : decode c_M_init 90 = .ok (.aload_n 0, 1) := by decide +kernel
theorem d_M_init_91 : decode c_M_init 91 = .ok (.ldc 42, 2) := by decide +kernel
theorem d_M_init_93 : decode c_M_init 93 = .ok (.newarray .long, 2) := by decide +kernel
theorem d_M_init_95 : decode c_M_init 95 = .ok (.putfield 43, 3) := by decide +kernel
theorem d_M_init_98 : decode c_M_init 98 = .ok (.aload_n 0, 1) := by decide +kernel
theorem d_M_init_99 : decode c_M_init 99 = .ok (.bipush 61, 2) := by decide +kernel
theorem d_M_init_101 : decode c_M_init 101 = .ok (.newarray .long, 2) := by decide +kernel
theorem d_M_init_103 : decode c_M_init 103 = .ok (.putfield 46, 3) := by decide +kernel
theorem d_M_init_106 : decode c_M_init 106 = .ok (.aload_n 0, 1) := by decide +kernel
theorem d_M_init_107 : decode c_M_init 107 = .ok (.bipush 61, 2) := by decide +kernel
theorem d_M_init_109 : decode c_M_init 109 = .ok (.newarray .long, 2) := by decide +kernel
theorem d_M_init_111 : decode c_M_init 111 = .ok (.putfield 49, 3) := by decide +kernel
theorem d_M_init_114 : decode c_M_init 114 = .ok (.aload_n 0, 1) := by decide +kernel
theorem d_M_init_115 : decode c_M_init 115 = .ok (.bipush 16, 2) := by decide +kernel
theorem d_M_init_117 : decode c_M_init 117 = .ok (.newarray .long, 2) := by decide +kernel
theorem d_M_init_119 : decode c_M_init 119 = .ok (.putfield 52, 3) := by decide +kernel
theorem d_M_init_122 : decode c_M_init 122 = .ok (.aload_n 0, 1) := by decide +kernel
theorem d_M_init_123 : decode c_M_init 123 = .ok (.bipush 16, 2) := by decide +kernel
theorem d_M_init_125 : decode c_M_init 125 = .ok (.newarray .long, 2) := by decide +kernel
theorem d_M_init_127 : decode c_M_init 127 = .ok (.putfield 55, 3) := by decide +kernel
theorem d_M_init_130 : decode c_M_init 130 = .ok (.aload_n 0, 1) := by decide +kernel
theorem d_M_init_131 : decode c_M_init 131 = .ok (.sipush 14000, 3) := by decide +kernel
theorem d_M_init_134 : decode c_M_init 134 = .ok (.newarray .int, 2) := by decide +kernel
theorem d_M_init_136 : decode c_M_init 136 = .ok (.putfield 58, 3) := by decide +kernel
theorem d_M_init_139 : decode c_M_init 139 = .ok (.aload_n 0, 1) := by decide +kernel
theorem d_M_init_140 : decode c_M_init 140 = .ok (.sipush 14007, 3) := by decide +kernel
theorem d_M_init_143 : decode c_M_init 143 = .ok (.newarray .int, 2) := by decide +kernel
theorem d_M_init_145 : decode c_M_init 145 = .ok (.putfield 61, 3) := by decide +kernel
theorem d_M_init_148 : decode c_M_init 148 = .ok (.aload_n 0, 1) := by decide +kernel
theorem d_M_init_149 : decode c_M_init 149 = .ok (.sipush 20000, 3) := by decide +kernel
theorem d_M_init_152 : decode c_M_init 152 = .ok (.newarray .int, 2) := by decide +kernel
theorem d_M_init_154 : decode c_M_init 154 = .ok (.putfield 64, 3) := by decide +kernel
theorem d_M_init_157 : decode c_M_init 157 = .ok (.aload_n 0, 1) := by decide +kernel
theorem d_M_init_158 : decode c_M_init 158 = .ok (.sipush 20000, 3) := by decide +kernel
theorem d_M_init_161 : decode c_M_init 161 = .ok (.newarray .int, 2) := by decide +kernel
theorem d_M_init_163 : decode c_M_init 163 = .ok (.putfield 67, 3) := by decide +kernel
theorem d_M_init_166 : decode c_M_init 166 = .ok (.aload_n 0, 1) := by decide +kernel
theorem d_M_init_167 : decode c_M_init 167 = .ok (.sipush 20000, 3) := by decide +kernel
theorem d_M_init_170 : decode c_M_init 170 = .ok (.newarray .long, 2) := by decide +kernel
theorem d_M_init_172 : decode c_M_init 172 = .ok (.putfield 70, 3) := by decide +kernel
theorem d_M_init_175 : decode c_M_init 175 = .ok (.return_, 1) := by decide +kernel
theorem d_M_thrown_0 : decode c_M_thrown 0 = .ok (.aload_n 0, 1) := by decide +kernel
theorem d_M_thrown_1 : decode c_M_thrown 1 = .ok (.getfield 73, 3) := by decide +kernel
theorem d_M_thrown_4 : decode c_M_thrown 4 = .ok (.ireturn, 1) := by decide +kernel
theorem d_M_symbolAt_0 : decode c_M_symbolAt 0 = .ok (.aload_n 0, 1) := by decide +kernel
theorem d_M_symbolAt_1 : decode c_M_symbolAt 1 = .ok (.getfield 16, 3) := by decide +kernel
theorem d_M_symbolAt_4 : decode c_M_symbolAt 4 = .ok (.bipush 64, 2) := by decide +kernel
theorem d_M_symbolAt_6 : decode c_M_symbolAt 6 = .ok (.iload_n 1, 1) := by decide +kernel
theorem d_M_symbolAt_7 : decode c_M_symbolAt 7 = .ok (.imul, 1) := by decide +kernel
theorem d_M_symbolAt_8 : decode c_M_symbolAt 8 = .ok (.bipush 8, 2) := by decide +kernel
theorem d_M_symbolAt_10 : decode c_M_symbolAt 10 = .ok (.iload_n 2, 1) := by decide +kernel
theorem d_M_symbolAt_11 : decode c_M_symbolAt 11 = .ok (.imul, 1) := by decide +kernel
theorem d_M_symbolAt_12 : decode c_M_symbolAt 12 = .ok (.iadd, 1) := by decide +kernel
theorem d_M_symbolAt_13 : decode c_M_symbolAt 13 = .ok (.iload_n 3, 1) := by decide +kernel
theorem d_M_symbolAt_14 : decode c_M_symbolAt 14 = .ok (.iadd, 1) := by decide +kernel
theorem d_M_symbolAt_15 : decode c_M_symbolAt 15 = .ok (.iaload, 1) := by decide +kernel
theorem d_M_symbolAt_16 : decode c_M_symbolAt 16 = .ok (.ireturn, 1) := by decide +kernel
theorem d_M_sizeOf_0 : decode c_M_sizeOf 0 = .ok (.aload_n 0, 1) := by decide +kernel
theorem d_M_sizeOf_1 : decode c_M_sizeOf 1 = .ok (.getfield 13, 3) := by decide +kernel
theorem d_M_sizeOf_4 : decode c_M_sizeOf 4 = .ok (.bipush 8, 2) := by decide +kernel
theorem d_M_sizeOf_6 : decode c_M_sizeOf 6 = .ok (.iload_n 1, 1) := by decide +kernel
theorem d_M_sizeOf_7 : decode c_M_sizeOf 7 = .ok (.imul, 1) := by decide +kernel
theorem d_M_sizeOf_8 : decode c_M_sizeOf 8 = .ok (.iload_n 2, 1) := by decide +kernel
theorem d_M_sizeOf_9 : decode c_M_sizeOf 9 = .ok (.iadd, 1) := by decide +kernel
theorem d_M_sizeOf_10 : decode c_M_sizeOf 10 = .ok (.iaload, 1) := by decide +kernel
theorem d_M_sizeOf_11 : decode c_M_sizeOf 11 = .ok (.ireturn, 1) := by decide +kernel
theorem d_M_isRule_0 : decode c_M_isRule 0 = .ok (.iload_n 0, 1) := by decide +kernel
theorem d_M_isRule_1 : decode c_M_isRule 1 = .ok (.ifCond .ge 7, 3) := by decide +kernel
theorem d_M_isRule_4 : decode c_M_isRule 4 = .ok (.iconst 1, 1) := by decide +kernel
theorem d_M_isRule_5 : decode c_M_isRule 5 = .ok (.goto 4, 3) := by decide +kernel
theorem d_M_isRule_8 : decode c_M_isRule 8 = .ok (.iconst 0, 1) := by decide +kernel
theorem d_M_isRule_9 : decode c_M_isRule 9 = .ok (.ireturn, 1) := by decide +kernel
theorem d_M_rowIsNothing_0 : decode c_M_rowIsNothing 0 = .ok (.iconst 1, 1) := by decide +kernel
theorem d_M_rowIsNothing_1 : decode c_M_rowIsNothing 1 = .ok (.istore 4, 2) := by decide +kernel
theorem d_M_rowIsNothing_3 : decode c_M_rowIsNothing 3 = .ok (.iload_n 3, 1) := by decide +kernel
theorem d_M_rowIsNothing_4 : decode c_M_rowIsNothing 4 = .ok (.istore 5, 2) := by decide +kernel
theorem d_M_rowIsNothing_6 : decode c_M_rowIsNothing 6 = .ok (.iload 5, 2) := by decide +kernel
theorem d_M_rowIsNothing_8 : decode c_M_rowIsNothing 8 = .ok (.aload_n 0, 1) := by decide +kernel
theorem d_M_rowIsNothing_9 : decode c_M_rowIsNothing 9 = .ok (.iload_n 1, 1) := by decide +kernel
theorem d_M_rowIsNothing_10 : decode c_M_rowIsNothing 10 = .ok (.iload_n 2, 1) := by decide +kernel
theorem d_M_rowIsNothing_11 : decode c_M_rowIsNothing 11 = .ok (.invokevirtual 77, 3) := by decide +kernel
theorem d_M_rowIsNothing_14 : decode c_M_rowIsNothing 14 = .ok (.if_icmp .ge 51, 3) := by decide +kernel
theorem d_M_rowIsNothing_17 : decode c_M_rowIsNothing 17 = .ok (.aload_n 0, 1) := by decide +kernel
theorem d_M_rowIsNothing_18 : decode c_M_rowIsNothing 18 = .ok (.iload_n 1, 1) := by decide +kernel
theorem d_M_rowIsNothing_19 : decode c_M_rowIsNothing 19 = .ok (.iload_n 2, 1) := by decide +kernel
theorem d_M_rowIsNothing_20 : decode c_M_rowIsNothing 20 = .ok (.iload 5, 2) := by decide +kernel
theorem d_M_rowIsNothing_22 : decode c_M_rowIsNothing 22 = .ok (.invokevirtual 81, 3) := by decide +kernel
theorem d_M_rowIsNothing_25 : decode c_M_rowIsNothing 25 = .ok (.istore 6, 2) := by decide +kernel
theorem d_M_rowIsNothing_27 : decode c_M_rowIsNothing 27 = .ok (.iload 4, 2) := by decide +kernel
theorem d_M_rowIsNothing_29 : decode c_M_rowIsNothing 29 = .ok (.ifCond .eq 27, 3) := by decide +kernel
theorem d_M_rowIsNothing_32 : decode c_M_rowIsNothing 32 = .ok (.iload 6, 2) := by decide +kernel
theorem d_M_rowIsNothing_34 : decode c_M_rowIsNothing 34 = .ok (.invokestatic 85, 3) := by decide +kernel
theorem d_M_rowIsNothing_37 : decode c_M_rowIsNothing 37 = .ok (.ifCond .eq 19, 3) := by decide +kernel
theorem d_M_rowIsNothing_40 : decode c_M_rowIsNothing 40 = .ok (.aload_n 0, 1) := by decide +kernel
theorem d_M_rowIsNothing_41 : decode c_M_rowIsNothing 41 = .ok (.getfield 19, 3) := by decide +kernel
theorem d_M_rowIsNothing_44 : decode c_M_rowIsNothing 44 = .ok (.iconst (-1), 1) := by decide +kernel
theorem d_M_rowIsNothing_45 : decode c_M_rowIsNothing 45 = .ok (.iload 6, 2) := by decide +kernel
theorem d_M_rowIsNothing_47 : decode c_M_rowIsNothing 47 = .ok (.isub, 1) := by decide +kernel
theorem d_M_rowIsNothing_48 : decode c_M_rowIsNothing 48 = .ok (.baload, 1) := by decide +kernel
theorem d_M_rowIsNothing_49 : decode c_M_rowIsNothing 49 = .ok (.ifCond .eq 7, 3) := by decide +kernel
theorem d_M_rowIsNothing_52 : decode c_M_rowIsNothing 52 = .ok (.iconst 1, 1) := by decide +kernel
theorem d_M_rowIsNothing_53 : decode c_M_rowIsNothing 53 = .ok (.goto 4, 3) := by decide +kernel
theorem d_M_rowIsNothing_56 : decode c_M_rowIsNothing 56 = .ok (.iconst 0, 1) := by decide +kernel
theorem d_M_rowIsNothing_57 : decode c_M_rowIsNothing 57 = .ok (.istore 4, 2) := by decide +kernel
theorem d_M_rowIsNothing_59 : decode c_M_rowIsNothing 59 = .ok (.iinc 5 1, 3) := by decide +kernel
theorem d_M_rowIsNothing_62 : decode c_M_rowIsNothing 62 = .ok (.goto (-56), 3) := by decide +kernel
theorem d_M_rowIsNothing_65 : decode c_M_rowIsNothing 65 = .ok (.iload 4, 2) := by decide +kernel
theorem d_M_rowIsNothing_67 : decode c_M_rowIsNothing 67 = .ok (.ireturn, 1) := by decide +kernel
theorem d_M_findNothing_0 : decode c_M_findNothing 0 = .ok (.iconst 0, 1) := by decide +kernel
theorem d_M_findNothing_1 : decode c_M_findNothing 1 = .ok (.istore_n 1, 1) := by decide +kernel
theorem d_M_findNothing_2 : decode c_M_findNothing 2 = .ok (.iload_n 1, 1) := by decide +kernel
theorem d_M_findNothing_3 : decode c_M_findNothing 3 = .ok (.bipush 16, 2) := by decide +kernel
theorem d_M_findNothing_5 : decode c_M_findNothing 5 = .ok (.if_icmp .ge 16, 3) := by decide +kernel
theorem d_M_findNothing_8 : decode c_M_findNothing 8 = .ok (.aload_n 0, 1) := by decide +kernel
theorem d_M_findNothing_9 : decode c_M_findNothing 9 = .ok (.getfield 19, 3) := by decide +kernel
theorem d_M_findNothing_12 : decode c_M_findNothing 12 = .ok (.iload_n 1, 1) := by decide +kernel
theorem d_M_findNothing_13 : decode c_M_findNothing 13 = .ok (.iconst 0, 1) := by decide +kernel
theorem d_M_findNothing_14 : decode c_M_findNothing 14 = .ok (.bastore, 1) := by decide +kernel
theorem d_M_findNothing_15 : decode c_M_findNothing 15 = .ok (.iinc 1 1, 3) := by decide +kernel
theorem d_M_findNothing_18 : decode c_M_findNothing 18 = .ok (.goto (-16), 3) := by decide +kernel
theorem d_M_findNothing_21 : decode c_M_findNothing 21 = .ok (.iconst 0, 1) := by decide +kernel
theorem d_M_findNothing_22 : decode c_M_findNothing 22 = .ok (.istore_n 1, 1) := by decide +kernel
theorem d_M_findNothing_23 : decode c_M_findNothing 23 = .ok (.iload_n 1, 1) := by decide +kernel
theorem d_M_findNothing_24 : decode c_M_findNothing 24 = .ok (.aload_n 0, 1) := by decide +kernel
theorem d_M_findNothing_25 : decode c_M_findNothing 25 = .ok (.getfield 89, 3) := by decide +kernel
theorem d_M_findNothing_28 : decode c_M_findNothing 28 = .ok (.if_icmp .ge 73, 3) := by decide +kernel
theorem d_M_findNothing_31 : decode c_M_findNothing 31 = .ok (.iconst 0, 1) := by decide +kernel
theorem d_M_findNothing_32 : decode c_M_findNothing 32 = .ok (.istore_n 2, 1) := by decide +kernel
theorem d_M_findNothing_33 : decode c_M_findNothing 33 = .ok (.iload_n 2, 1) := by decide +kernel
theorem d_M_findNothing_34 : decode c_M_findNothing 34 = .ok (.aload_n 0, 1) := by decide +kernel
theorem d_M_findNothing_35 : decode c_M_findNothing 35 = .ok (.getfield 89, 3) := by decide +kernel
theorem d_M_findNothing_38 : decode c_M_findNothing 38 = .ok (.if_icmp .ge 57, 3) := by decide +kernel
theorem d_M_findNothing_41 : decode c_M_findNothing 41 = .ok (.iconst 0, 1) := by decide +kernel
theorem d_M_findNothing_42 : decode c_M_findNothing 42 = .ok (.istore_n 3, 1) := by decide +kernel
theorem d_M_findNothing_43 : decode c_M_findNothing 43 = .ok (.iload_n 3, 1) := by decide +kernel
theorem d_M_findNothing_44 : decode c_M_findNothing 44 = .ok (.aload_n 0, 1) := by decide +kernel
theorem d_M_findNothing_45 : decode c_M_findNothing 45 = .ok (.getfield 7, 3) := by decide +kernel
theorem d_M_findNothing_48 : decode c_M_findNothing 48 = .ok (.iload_n 2, 1) := by decide +kernel
theorem d_M_findNothing_49 : decode c_M_findNothing 49 = .ok (.iaload, 1) := by decide +kernel
theorem d_M_findNothing_50 : decode c_M_findNothing 50 = .ok (.if_icmp .ge 39, 3) := by decide +kernel
theorem d_M_findNothing_53 : decode c_M_findNothing 53 = .ok (.aload_n 0, 1) := by decide +kernel
theorem d_M_findNothing_54 : decode c_M_findNothing 54 = .ok (.getfield 19, 3) := by decide +kernel
theorem d_M_findNothing_57 : decode c_M_findNothing 57 = .ok (.iload_n 2, 1) := by decide +kernel
theorem d_M_findNothing_58 : decode c_M_findNothing 58 = .ok (.aload_n 0, 1) := by decide +kernel
theorem d_M_findNothing_59 : decode c_M_findNothing 59 = .ok (.getfield 19, 3) := by decide +kernel
theorem d_M_findNothing_62 : decode c_M_findNothing 62 = .ok (.iload_n 2, 1) := by decide +kernel
theorem d_M_findNothing_63 : decode c_M_findNothing 63 = .ok (.baload, 1) := by decide +kernel
theorem d_M_findNothing_64 : decode c_M_findNothing 64 = .ok (.ifCond .ne 13, 3) := by decide +kernel
theorem d_M_findNothing_67 : decode c_M_findNothing 67 = .ok (.aload_n 0, 1) := by decide +kernel
theorem d_M_findNothing_68 : decode c_M_findNothing 68 = .ok (.iload_n 2, 1) := by decide +kernel
theorem d_M_findNothing_69 : decode c_M_findNothing 69 = .ok (.iload_n 3, 1) := by decide +kernel
theorem d_M_findNothing_70 : decode c_M_findNothing 70 = .ok (.iconst 0, 1) := by decide +kernel
theorem d_M_findNothing_71 : decode c_M_findNothing 71 = .ok (.invokevirtual 92, 3) := by decide +kernel
theorem d_M_findNothing_74 : decode c_M_findNothing 74 = .ok (.ifCond .eq 7, 3) := by decide +kernel
theorem d_M_findNothing_77 : decode c_M_findNothing 77 = .ok (.iconst 1, 1) := by decide +kernel
theorem d_M_findNothing_78 : decode c_M_findNothing 78 = .ok (.goto 4, 3) := by decide +kernel
theorem d_M_findNothing_81 : decode c_M_findNothing 81 = .ok (.iconst 0, 1) := by decide +kernel
theorem d_M_findNothing_82 : decode c_M_findNothing 82 = .ok (.bastore, 1) := by decide +kernel
theorem d_M_findNothing_83 : decode c_M_findNothing 83 = .ok (.iinc 3 1, 3) := by decide +kernel
theorem d_M_findNothing_86 : decode c_M_findNothing 86 = .ok (.goto (-43), 3) := by decide +kernel
theorem d_M_findNothing_89 : decode c_M_findNothing 89 = .ok (.iinc 2 1, 3) := by decide +kernel
theorem d_M_findNothing_92 : decode c_M_findNothing 92 = .ok (.goto (-59), 3) := by decide +kernel
theorem d_M_findNothing_95 : decode c_M_findNothing 95 = .ok (.iinc 1 1, 3) := by decide +kernel
theorem d_M_findNothing_98 : decode c_M_findNothing 98 = .ok (.goto (-75), 3) := by decide +kernel
theorem d_M_findNothing_101 : decode c_M_findNothing 101 = .ok (.return_, 1) := by decide +kernel
theorem d_M_findLeft_0 : decode c_M_findLeft 0 = .ok (.iconst 0, 1) := by decide +kernel
theorem d_M_findLeft_1 : decode c_M_findLeft 1 = .ok (.istore_n 1, 1) := by decide +kernel
theorem d_M_findLeft_2 : decode c_M_findLeft 2 = .ok (.iload_n 1, 1) := by decide +kernel
theorem d_M_findLeft_3 : decode c_M_findLeft 3 = .ok (.sipush 256, 3) := by decide +kernel
theorem d_M_findLeft_6 : decode c_M_findLeft 6 = .ok (.if_icmp .ge 16, 3) := by decide +kernel
theorem d_M_findLeft_9 : decode c_M_findLeft 9 = .ok (.aload_n 0, 1) := by decide +kernel
theorem d_M_findLeft_10 : decode c_M_findLeft 10 = .ok (.getfield 23, 3) := by decide +kernel
theorem d_M_findLeft_13 : decode c_M_findLeft 13 = .ok (.iload_n 1, 1) := by decide +kernel
theorem d_M_findLeft_14 : decode c_M_findLeft 14 = .ok (.iconst 0, 1) := by decide +kernel
theorem d_M_findLeft_15 : decode c_M_findLeft 15 = .ok (.bastore, 1) := by decide +kernel
theorem d_M_findLeft_16 : decode c_M_findLeft 16 = .ok (.iinc 1 1, 3) := by decide +kernel
theorem d_M_findLeft_19 : decode c_M_findLeft 19 = .ok (.goto (-17), 3) := by decide +kernel
theorem d_M_findLeft_22 : decode c_M_findLeft 22 = .ok (.iconst 0, 1) := by decide +kernel
theorem d_M_findLeft_23 : decode c_M_findLeft 23 = .ok (.istore_n 1, 1) := by decide +kernel
theorem d_M_findLeft_24 : decode c_M_findLeft 24 = .ok (.iload_n 1, 1) := by decide +kernel
theorem d_M_findLeft_25 : decode c_M_findLeft 25 = .ok (.aload_n 0, 1) := by decide +kernel
theorem d_M_findLeft_26 : decode c_M_findLeft 26 = .ok (.getfield 89, 3) := by decide +kernel
theorem d_M_findLeft_29 : decode c_M_findLeft 29 = .ok (.if_icmp .ge 116, 3) := by decide +kernel
theorem d_M_findLeft_32 : decode c_M_findLeft 32 = .ok (.iconst 0, 1) := by decide +kernel
theorem d_M_findLeft_33 : decode c_M_findLeft 33 = .ok (.istore_n 2, 1) := by decide +kernel
theorem d_M_findLeft_34 : decode c_M_findLeft 34 = .ok (.iload_n 2, 1) := by decide +kernel
theorem d_M_findLeft_35 : decode c_M_findLeft 35 = .ok (.aload_n 0, 1) := by decide +kernel
theorem d_M_findLeft_36 : decode c_M_findLeft 36 = .ok (.getfield 7, 3) := by decide +kernel
theorem d_M_findLeft_39 : decode c_M_findLeft 39 = .ok (.iload_n 1, 1) := by decide +kernel
theorem d_M_findLeft_40 : decode c_M_findLeft 40 = .ok (.iaload, 1) := by decide +kernel
theorem d_M_findLeft_41 : decode c_M_findLeft 41 = .ok (.if_icmp .ge 98, 3) := by decide +kernel
theorem d_M_findLeft_44 : decode c_M_findLeft 44 = .ok (.iconst 1, 1) := by decide +kernel
theorem d_M_findLeft_45 : decode c_M_findLeft 45 = .ok (.istore_n 3, 1) := by decide +kernel
theorem d_M_findLeft_46 : decode c_M_findLeft 46 = .ok (.iconst 0, 1) := by decide +kernel
theorem d_M_findLeft_47 : decode c_M_findLeft 47 = .ok (.istore 4, 2) := by decide +kernel
theorem d_M_findLeft_49 : decode c_M_findLeft 49 = .ok (.iload 4, 2) := by decide +kernel
theorem d_M_findLeft_51 : decode c_M_findLeft 51 = .ok (.aload_n 0, 1) := by decide +kernel
theorem d_M_findLeft_52 : decode c_M_findLeft 52 = .ok (.iload_n 1, 1) := by decide +kernel
theorem d_M_findLeft_53 : decode c_M_findLeft 53 = .ok (.iload_n 2, 1) := by decide +kernel
theorem d_M_findLeft_54 : decode c_M_findLeft 54 = .ok (.invokevirtual 77, 3) := by decide +kernel
theorem d_M_findLeft_57 : decode c_M_findLeft 57 = .ok (.if_icmp .ge 76, 3) := by decide +kernel
theorem d_M_findLeft_60 : decode c_M_findLeft 60 = .ok (.aload_n 0, 1) := by decide +kernel
theorem d_M_findLeft_61 : decode c_M_findLeft 61 = .ok (.iload_n 1, 1) := by decide +kernel
theorem d_M_findLeft_62 : decode c_M_findLeft 62 = .ok (.iload_n 2, 1) := by decide +kernel
theorem d_M_findLeft_63 : decode c_M_findLeft 63 = .ok (.iload 4, 2) := by decide +kernel
theorem d_M_findLeft_65 : decode c_M_findLeft 65 = .ok (.invokevirtual 81, 3) := by decide +kernel
theorem d_M_findLeft_68 : decode c_M_findLeft 68 = .ok (.istore 5, 2) := by decide +kernel
theorem d_M_findLeft_70 : decode c_M_findLeft 70 = .ok (.iload_n 3, 1) := by decide +kernel
theorem d_M_findLeft_71 : decode c_M_findLeft 71 = .ok (.ifCond .eq 26, 3) := by decide +kernel
theorem d_M_findLeft_74 : decode c_M_findLeft 74 = .ok (.iload 5, 2) := by decide +kernel
theorem d_M_findLeft_76 : decode c_M_findLeft 76 = .ok (.invokestatic 85, 3) := by decide +kernel
theorem d_M_findLeft_79 : decode c_M_findLeft 79 = .ok (.ifCond .eq 18, 3) := by decide +kernel
theorem d_M_findLeft_82 : decode c_M_findLeft 82 = .ok (.aload_n 0, 1) := by decide +kernel
theorem d_M_findLeft_83 : decode c_M_findLeft 83 = .ok (.getfield 23, 3) := by decide +kernel
theorem d_M_findLeft_86 : decode c_M_findLeft 86 = .ok (.bipush 16, 2) := by decide +kernel
theorem d_M_findLeft_88 : decode c_M_findLeft 88 = .ok (.iload_n 1, 1) := by decide +kernel
theorem d_M_findLeft_89 : decode c_M_findLeft 89 = .ok (.imul, 1) := by decide +kernel
theorem d_M_findLeft_90 : decode c_M_findLeft 90 = .ok (.iconst 1, 1) := by decide +kernel
theorem d_M_findLeft_91 : decode c_M_findLeft 91 = .ok (.isub, 1) := by decide +kernel
theorem d_M_findLeft_92 : decode c_M_findLeft 92 = .ok (.iload 5, 2) := by decide +kernel
theorem d_M_findLeft_94 : decode c_M_findLeft 94 = .ok (.isub, 1) := by decide +kernel
theorem d_M_findLeft_95 : decode c_M_findLeft 95 = .ok (.iconst 1, 1) := by decide +kernel
theorem d_M_findLeft_96 : decode c_M_findLeft 96 = .ok (.bastore, 1) := by decide +kernel
theorem d_M_findLeft_97 : decode c_M_findLeft 97 = .ok (.iload_n 3, 1) := by decide +kernel
theorem d_M_findLeft_98 : decode c_M_findLeft 98 = .ok (.ifCond .eq 27, 3) := by decide +kernel
theorem d_M_findLeft_101 : decode c_M_findLeft 101 = .ok (.iload 5, 2) := by decide +kernel
theorem d_M_findLeft_103 : decode c_M_findLeft 103 = .ok (.invokestatic 85, 3) := by decide +kernel
theorem d_M_findLeft_106 : decode c_M_findLeft 106 = .ok (.ifCond .eq 19, 3) := by decide +kernel
theorem d_M_findLeft_109 : decode c_M_findLeft 109 = .ok (.aload_n 0, 1) := by decide +kernel
theorem d_M_findLeft_110 : decode c_M_findLeft 110 = .ok (.getfield 19, 3) := by decide +kernel
theorem d_M_findLeft_113 : decode c_M_findLeft 113 = .ok (.iconst (-1), 1) := by decide +kernel
theorem d_M_findLeft_114 : decode c_M_findLeft 114 = .ok (.iload 5, 2) := by decide +kernel
theorem d_M_findLeft_116 : decode c_M_findLeft 116 = .ok (.isub, 1) := by decide +kernel
theorem d_M_findLeft_117 : decode c_M_findLeft 117 = .ok (.baload, 1) := by decide +kernel
theorem d_M_findLeft_118 : decode c_M_findLeft 118 = .ok (.ifCond .eq 7, 3) := by decide +kernel
theorem d_M_findLeft_121 : decode c_M_findLeft 121 = .ok (.iconst 1, 1) := by decide +kernel
theorem d_M_findLeft_122 : decode c_M_findLeft 122 = .ok (.goto 4, 3) := by decide +kernel
theorem d_M_findLeft_125 : decode c_M_findLeft 125 = .ok (.iconst 0, 1) := by decide +kernel
theorem d_M_findLeft_126 : decode c_M_findLeft 126 = .ok (.istore_n 3, 1) := by decide +kernel
theorem d_M_findLeft_127 : decode c_M_findLeft 127 = .ok (.iinc 4 1, 3) := by decide +kernel
theorem d_M_findLeft_130 : decode c_M_findLeft 130 = .ok (.goto (-81), 3) := by decide +kernel
theorem d_M_findLeft_133 : decode c_M_findLeft 133 = .ok (.iinc 2 1, 3) := by decide +kernel
theorem d_M_findLeft_136 : decode c_M_findLeft 136 = .ok (.goto (-102), 3) := by decide +kernel
theorem d_M_findLeft_139 : decode c_M_findLeft 139 = .ok (.iinc 1 1, 3) := by decide +kernel
theorem d_M_findLeft_142 : decode c_M_findLeft 142 = .ok (.goto (-118), 3) := by decide +kernel
theorem d_M_findLeft_145 : decode c_M_findLeft 145 = .ok (.iconst 0, 1) := by decide +kernel
theorem d_M_findLeft_146 : decode c_M_findLeft 146 = .ok (.istore_n 1, 1) := by decide +kernel
theorem d_M_findLeft_147 : decode c_M_findLeft 147 = .ok (.iload_n 1, 1) := by decide +kernel
theorem d_M_findLeft_148 : decode c_M_findLeft 148 = .ok (.aload_n 0, 1) := by decide +kernel
theorem d_M_findLeft_149 : decode c_M_findLeft 149 = .ok (.getfield 89, 3) := by decide +kernel
theorem d_M_findLeft_152 : decode c_M_findLeft 152 = .ok (.if_icmp .ge 99, 3) := by decide +kernel
theorem d_M_findLeft_155 : decode c_M_findLeft 155 = .ok (.iconst 0, 1) := by decide +kernel
theorem d_M_findLeft_156 : decode c_M_findLeft 156 = .ok (.istore_n 2, 1) := by decide +kernel
theorem d_M_findLeft_157 : decode c_M_findLeft 157 = .ok (.iload_n 2, 1) := by decide +kernel
theorem d_M_findLeft_158 : decode c_M_findLeft 158 = .ok (.aload_n 0, 1) := by decide +kernel
theorem d_M_findLeft_159 : decode c_M_findLeft 159 = .ok (.getfield 89, 3) := by decide +kernel
theorem d_M_findLeft_162 : decode c_M_findLeft 162 = .ok (.if_icmp .ge 83, 3) := by decide +kernel
theorem d_M_findLeft_165 : decode c_M_findLeft 165 = .ok (.iconst 0, 1) := by decide +kernel
theorem d_M_findLeft_166 : decode c_M_findLeft 166 = .ok (.istore_n 3, 1) := by decide +kernel
theorem d_M_findLeft_167 : decode c_M_findLeft 167 = .ok (.iload_n 3, 1) := by decide +kernel
theorem d_M_findLeft_168 : decode c_M_findLeft 168 = .ok (.aload_n 0, 1) := by decide +kernel
theorem d_M_findLeft_169 : decode c_M_findLeft 169 = .ok (.getfield 89, 3) := by decide +kernel
theorem d_M_findLeft_172 : decode c_M_findLeft 172 = .ok (.if_icmp .ge 67, 3) := by decide +kernel
theorem d_M_findLeft_175 : decode c_M_findLeft 175 = .ok (.aload_n 0, 1) := by decide +kernel
theorem d_M_findLeft_176 : decode c_M_findLeft 176 = .ok (.getfield 23, 3) := by decide +kernel
theorem d_M_findLeft_179 : decode c_M_findLeft 179 = .ok (.bipush 16, 2) := by decide +kernel
theorem d_M_findLeft_181 : decode c_M_findLeft 181 = .ok (.iload_n 2, 1) := by decide +kernel
theorem d_M_findLeft_182 : decode c_M_findLeft 182 = .ok (.imul, 1) := by decide +kernel
theorem d_M_findLeft_183 : decode c_M_findLeft 183 = .ok (.iload_n 3, 1) := by decide +kernel
theorem d_M_findLeft_184 : decode c_M_findLeft 184 = .ok (.iadd, 1) := by decide +kernel
theorem d_M_findLeft_185 : decode c_M_findLeft 185 = .ok (.aload_n 0, 1) := by decide +kernel
theorem d_M_findLeft_186 : decode c_M_findLeft 186 = .ok (.getfield 23, 3) := by decide +kernel
theorem d_M_findLeft_189 : decode c_M_findLeft 189 = .ok (.bipush 16, 2) := by decide +kernel
theorem d_M_findLeft_191 : decode c_M_findLeft 191 = .ok (.iload_n 2, 1) := by decide +kernel
theorem d_M_findLeft_192 : decode c_M_findLeft 192 = .ok (.imul, 1) := by decide +kernel
theorem d_M_findLeft_193 : decode c_M_findLeft 193 = .ok (.iload_n 3, 1) := by decide +kernel
theorem d_M_findLeft_194 : decode c_M_findLeft 194 = .ok (.iadd, 1) := by decide +kernel
theorem d_M_findLeft_195 : decode c_M_findLeft 195 = .ok (.baload, 1) := by decide +kernel
theorem d_M_findLeft_196 : decode c_M_findLeft 196 = .ok (.ifCond .ne 31, 3) := by decide +kernel
theorem d_M_findLeft_199 : decode c_M_findLeft 199 = .ok (.aload_n 0, 1) := by decide +kernel
theorem d_M_findLeft_200 : decode c_M_findLeft 200 = .ok (.getfield 23, 3) := by decide +kernel
theorem d_M_findLeft_203 : decode c_M_findLeft 203 = .ok (.bipush 16, 2) := by decide +kernel
theorem d_M_findLeft_205 : decode c_M_findLeft 205 = .ok (.iload_n 2, 1) := by decide +kernel
theorem d_M_findLeft_206 : decode c_M_findLeft 206 = .ok (.imul, 1) := by decide +kernel
theorem d_M_findLeft_207 : decode c_M_findLeft 207 = .ok (.iload_n 1, 1) := by decide +kernel
theorem d_M_findLeft_208 : decode c_M_findLeft 208 = .ok (.iadd, 1) := by decide +kernel
theorem d_M_findLeft_209 : decode c_M_findLeft 209 = .ok (.baload, 1) := by decide +kernel
theorem d_M_findLeft_210 : decode c_M_findLeft 210 = .ok (.ifCond .eq 21, 3) := by decide +kernel
theorem d_M_findLeft_213 : decode c_M_findLeft 213 = .ok (.aload_n 0, 1) := by decide +kernel
theorem d_M_findLeft_214 : decode c_M_findLeft 214 = .ok (.getfield 23, 3) := by decide +kernel
theorem d_M_findLeft_217 : decode c_M_findLeft 217 = .ok (.bipush 16, 2) := by decide +kernel
theorem d_M_findLeft_219 : decode c_M_findLeft 219 = .ok (.iload_n 1, 1) := by decide +kernel
theorem d_M_findLeft_220 : decode c_M_findLeft 220 = .ok (.imul, 1) := by decide +kernel
theorem d_M_findLeft_221 : decode c_M_findLeft 221 = .ok (.iload_n 3, 1) := by decide +kernel
theorem d_M_findLeft_222 : decode c_M_findLeft 222 = .ok (.iadd, 1) := by decide +kernel
theorem d_M_findLeft_223 : decode c_M_findLeft 223 = .ok (.baload, 1) := by decide +kernel
theorem d_M_findLeft_224 : decode c_M_findLeft 224 = .ok (.ifCond .eq 7, 3) := by decide +kernel
theorem d_M_findLeft_227 : decode c_M_findLeft 227 = .ok (.iconst 1, 1) := by decide +kernel
theorem d_M_findLeft_228 : decode c_M_findLeft 228 = .ok (.goto 4, 3) := by decide +kernel
theorem d_M_findLeft_231 : decode c_M_findLeft 231 = .ok (.iconst 0, 1) := by decide +kernel
theorem d_M_findLeft_232 : decode c_M_findLeft 232 = .ok (.bastore, 1) := by decide +kernel
theorem d_M_findLeft_233 : decode c_M_findLeft 233 = .ok (.iinc 3 1, 3) := by decide +kernel
theorem d_M_findLeft_236 : decode c_M_findLeft 236 = .ok (.goto (-69), 3) := by decide +kernel
theorem d_M_findLeft_239 : decode c_M_findLeft 239 = .ok (.iinc 2 1, 3) := by decide +kernel
theorem d_M_findLeft_242 : decode c_M_findLeft 242 = .ok (.goto (-85), 3) := by decide +kernel
theorem d_M_findLeft_245 : decode c_M_findLeft 245 = .ok (.iinc 1 1, 3) := by decide +kernel
theorem d_M_findLeft_248 : decode c_M_findLeft 248 = .ok (.goto (-101), 3) := by decide +kernel
theorem d_M_findLeft_251 : decode c_M_findLeft 251 = .ok (.return_, 1) := by decide +kernel
theorem d_M_faultOf_0 : decode c_M_faultOf 0 = .ok (.aload_n 0, 1) := by decide +kernel
theorem d_M_faultOf_1 : decode c_M_faultOf 1 = .ok (.iconst (-1), 1) := by decide +kernel
theorem d_M_faultOf_2 : decode c_M_faultOf 2 = .ok (.putfield 96, 3) := by decide +kernel
theorem d_M_faultOf_5 : decode c_M_faultOf 5 = .ok (.aload_n 0, 1) := by decide +kernel
theorem d_M_faultOf_6 : decode c_M_faultOf 6 = .ok (.getfield 89, 3) := by decide +kernel
theorem d_M_faultOf_9 : decode c_M_faultOf 9 = .ok (.ifCond .ne 5, 3) := by decide +kernel
theorem d_M_faultOf_12 : decode c_M_faultOf 12 = .ok (.iconst 1, 1) := by decide +kernel
theorem d_M_faultOf_13 : decode c_M_faultOf 13 = .ok (.ireturn, 1) := by decide +kernel
theorem d_M_faultOf_14 : decode c_M_faultOf 14 = .ok (.aload_n 0, 1) := by decide +kernel
theorem d_M_faultOf_15 : decode c_M_faultOf 15 = .ok (.getfield 89, 3) := by decide +kernel
theorem d_M_faultOf_18 : decode c_M_faultOf 18 = .ok (.iconst 1, 1) := by decide +kernel
theorem d_M_faultOf_19 : decode c_M_faultOf 19 = .ok (.isub, 1) := by decide +kernel
theorem d_M_faultOf_20 : decode c_M_faultOf 20 = .ok (.istore_n 1, 1) := by decide +kernel
theorem d_M_faultOf_21 : decode c_M_faultOf 21 = .ok (.iload_n 1, 1) := by decide +kernel
theorem d_M_faultOf_22 : decode c_M_faultOf 22 = .ok (.ifCond .lt 72, 3) := by decide +kernel
theorem d_M_faultOf_25 : decode c_M_faultOf 25 = .ok (.iconst 0, 1) := by decide +kernel
theorem d_M_faultOf_26 : decode c_M_faultOf 26 = .ok (.istore_n 2, 1) := by decide +kernel
theorem d_M_faultOf_27 : decode c_M_faultOf 27 = .ok (.iload_n 2, 1) := by decide +kernel
theorem d_M_faultOf_28 : decode c_M_faultOf 28 = .ok (.aload_n 0, 1) := by decide +kernel
theorem d_M_faultOf_29 : decode c_M_faultOf 29 = .ok (.getfield 7, 3) := by decide +kernel
theorem d_M_faultOf_32 : decode c_M_faultOf 32 = .ok (.iload_n 1, 1) := by decide +kernel
theorem d_M_faultOf_33 : decode c_M_faultOf 33 = .ok (.iaload, 1) := by decide +kernel
theorem d_M_faultOf_34 : decode c_M_faultOf 34 = .ok (.if_icmp .ge 54, 3) := by decide +kernel
theorem d_M_faultOf_37 : decode c_M_faultOf 37 = .ok (.iconst 0, 1) := by decide +kernel
theorem d_M_faultOf_38 : decode c_M_faultOf 38 = .ok (.istore_n 3, 1) := by decide +kernel
theorem d_M_faultOf_39 : decode c_M_faultOf 39 = .ok (.iload_n 3, 1) := by decide +kernel
theorem d_M_faultOf_40 : decode c_M_faultOf 40 = .ok (.aload_n 0, 1) := by decide +kernel
theorem d_M_faultOf_41 : decode c_M_faultOf 41 = .ok (.iload_n 1, 1) := by decide +kernel
theorem d_M_faultOf_42 : decode c_M_faultOf 42 = .ok (.iload_n 2, 1) := by decide +kernel
theorem d_M_faultOf_43 : decode c_M_faultOf 43 = .ok (.invokevirtual 77, 3) := by decide +kernel
theorem d_M_faultOf_46 : decode c_M_faultOf 46 = .ok (.if_icmp .ge 36, 3) := by decide +kernel
theorem d_M_faultOf_49 : decode c_M_faultOf 49 = .ok (.aload_n 0, 1) := by decide +kernel
theorem d_M_faultOf_50 : decode c_M_faultOf 50 = .ok (.aload_n 0, 1) := by decide +kernel
theorem d_M_faultOf_51 : decode c_M_faultOf 51 = .ok (.iload_n 1, 1) := by decide +kernel
theorem d_M_faultOf_52 : decode c_M_faultOf 52 = .ok (.iload_n 2, 1) := by decide +kernel
theorem d_M_faultOf_53 : decode c_M_faultOf 53 = .ok (.iload_n 3, 1) := by decide +kernel
theorem d_M_faultOf_54 : decode c_M_faultOf 54 = .ok (.invokevirtual 81, 3) := by decide +kernel
theorem d_M_faultOf_57 : decode c_M_faultOf 57 = .ok (.aload_n 0, 1) := by decide +kernel
theorem d_M_faultOf_58 : decode c_M_faultOf 58 = .ok (.getfield 89, 3) := by decide +kernel
theorem d_M_faultOf_61 : decode c_M_faultOf 61 = .ok (.ineg, 1) := by decide +kernel
theorem d_M_faultOf_62 : decode c_M_faultOf 62 = .ok (.if_icmp .ge 7, 3) := by decide +kernel
theorem d_M_faultOf_65 : decode c_M_faultOf 65 = .ok (.iload_n 1, 1) := by decide +kernel
theorem d_M_faultOf_66 : decode c_M_faultOf 66 = .ok (.goto 7, 3) := by decide +kernel
theorem d_M_faultOf_69 : decode c_M_faultOf 69 = .ok (.aload_n 0, 1) := by decide +kernel
theorem d_M_faultOf_70 : decode c_M_faultOf 70 = .ok (.getfield 96, 3) := by decide +kernel
theorem d_M_faultOf_73 : decode c_M_faultOf 73 = .ok (.putfield 96, 3) := by decide +kernel
theorem d_M_faultOf_76 : decode c_M_faultOf 76 = .ok (.iinc 3 1, 3) := by decide +kernel
theorem d_M_faultOf_79 : decode c_M_faultOf 79 = .ok (.goto (-40), 3) := by decide +kernel
theorem d_M_faultOf_82 : decode c_M_faultOf 82 = .ok (.iinc 2 1, 3) := by decide +kernel
theorem d_M_faultOf_85 : decode c_M_faultOf 85 = .ok (.goto (-58), 3) := by decide +kernel
theorem d_M_faultOf_88 : decode c_M_faultOf 88 = .ok (.iinc 1 (-1), 3) := by decide +kernel
theorem d_M_faultOf_91 : decode c_M_faultOf 91 = .ok (.goto (-70), 3) := by decide +kernel
theorem d_M_faultOf_94 : decode c_M_faultOf 94 = .ok (.aload_n 0, 1) := by decide +kernel
theorem d_M_faultOf_95 : decode c_M_faultOf 95 = .ok (.getfield 96, 3) := by decide +kernel
theorem d_M_faultOf_98 : decode c_M_faultOf 98 = .ok (.ifCond .lt 5, 3) := by decide +kernel
theorem d_M_faultOf_101 : decode c_M_faultOf 101 = .ok (.iconst 2, 1) := by decide +kernel
theorem d_M_faultOf_102 : decode c_M_faultOf 102 = .ok (.ireturn, 1) := by decide +kernel
theorem d_M_faultOf_103 : decode c_M_faultOf 103 = .ok (.aload_n 0, 1) := by decide +kernel
theorem d_M_faultOf_104 : decode c_M_faultOf 104 = .ok (.getfield 89, 3) := by decide +kernel
theorem d_M_faultOf_107 : decode c_M_faultOf 107 = .ok (.iconst 1, 1) := by decide +kernel
theorem d_M_faultOf_108 : decode c_M_faultOf 108 = .ok (.isub, 1) := by decide +kernel
theorem d_M_faultOf_109 : decode c_M_faultOf 109 = .ok (.istore_n 1, 1) := by decide +kernel
theorem d_M_faultOf_110 : decode c_M_faultOf 110 = .ok (.iload_n 1, 1) := by decide +kernel
theorem d_M_faultOf_111 : decode c_M_faultOf 111 = .ok (.ifCond .lt 30, 3) := by decide +kernel
theorem d_M_faultOf_114 : decode c_M_faultOf 114 = .ok (.aload_n 0, 1) := by decide +kernel
theorem d_M_faultOf_115 : decode c_M_faultOf 115 = .ok (.aload_n 0, 1) := by decide +kernel
theorem d_M_faultOf_116 : decode c_M_faultOf 116 = .ok (.getfield 7, 3) := by decide +kernel
theorem d_M_faultOf_119 : decode c_M_faultOf 119 = .ok (.iload_n 1, 1) := by decide +kernel
theorem d_M_faultOf_120 : decode c_M_faultOf 120 = .ok (.iaload, 1) := by decide +kernel
theorem d_M_faultOf_121 : decode c_M_faultOf 121 = .ok (.ifCond .ne 7, 3) := by decide +kernel
theorem d_M_faultOf_124 : decode c_M_faultOf 124 = .ok (.iload_n 1, 1) := by decide +kernel
theorem d_M_faultOf_125 : decode c_M_faultOf 125 = .ok (.goto 7, 3) := by decide +kernel
theorem d_M_faultOf_128 : decode c_M_faultOf 128 = .ok (.aload_n 0, 1) := by decide +kernel
theorem d_M_faultOf_129 : decode c_M_faultOf 129 = .ok (.getfield 96, 3) := by decide +kernel
theorem d_M_faultOf_132 : decode c_M_faultOf 132 = .ok (.putfield 96, 3) := by decide +kernel
theorem d_M_faultOf_135 : decode c_M_faultOf 135 = .ok (.iinc 1 (-1), 3) := by decide +kernel
theorem d_M_faultOf_138 : decode c_M_faultOf 138 = .ok (.goto (-28), 3) := by decide +kernel
theorem d_M_faultOf_141 : decode c_M_faultOf 141 = .ok (.aload_n 0, 1) := by decide +kernel
theorem d_M_faultOf_142 : decode c_M_faultOf 142 = .ok (.getfield 96, 3) := by decide +kernel
theorem d_M_faultOf_145 : decode c_M_faultOf 145 = .ok (.ifCond .lt 5, 3) := by decide +kernel
theorem d_M_faultOf_148 : decode c_M_faultOf 148 = .ok (.iconst 3, 1) := by decide +kernel
theorem d_M_faultOf_149 : decode c_M_faultOf 149 = .ok (.ireturn, 1) := by decide +kernel
theorem d_M_faultOf_150 : decode c_M_faultOf 150 = .ok (.aload_n 0, 1) := by decide +kernel
theorem d_M_faultOf_151 : decode c_M_faultOf 151 = .ok (.invokevirtual 99, 3) := by decide +kernel
theorem d_M_faultOf_154 : decode c_M_faultOf 154 = .ok (.aload_n 0, 1) := by decide +kernel
theorem d_M_faultOf_155 : decode c_M_faultOf 155 = .ok (.invokevirtual 102, 3) := by decide +kernel
theorem d_M_faultOf_158 : decode c_M_faultOf 158 = .ok (.aload_n 0, 1) := by decide +kernel
theorem d_M_faultOf_159 : decode c_M_faultOf 159 = .ok (.getfield 89, 3) := by decide +kernel
theorem d_M_faultOf_162 : decode c_M_faultOf 162 = .ok (.iconst 1, 1) := by decide +kernel
theorem d_M_faultOf_163 : decode c_M_faultOf 163 = .ok (.isub, 1) := by decide +kernel
theorem d_M_faultOf_164 : decode c_M_faultOf 164 = .ok (.istore_n 1, 1) := by decide +kernel
theorem d_M_faultOf_165 : decode c_M_faultOf 165 = .ok (.iload_n 1, 1) := by decide +kernel
theorem d_M_faultOf_166 : decode c_M_faultOf 166 = .ok (.ifCond .lt 33, 3) := by decide +kernel
theorem d_M_faultOf_169 : decode c_M_faultOf 169 = .ok (.aload_n 0, 1) := by decide +kernel
theorem d_M_faultOf_170 : decode c_M_faultOf 170 = .ok (.aload_n 0, 1) := by decide +kernel
theorem d_M_faultOf_171 : decode c_M_faultOf 171 = .ok (.getfield 23, 3) := by decide +kernel
theorem d_M_faultOf_174 : decode c_M_faultOf 174 = .ok (.bipush 17, 2) := by decide +kernel
theorem d_M_faultOf_176 : decode c_M_faultOf 176 = .ok (.iload_n 1, 1) := by decide +kernel
theorem d_M_faultOf_177 : decode c_M_faultOf 177 = .ok (.imul, 1) := by decide +kernel
theorem d_M_faultOf_178 : decode c_M_faultOf 178 = .ok (.baload, 1) := by decide +kernel
theorem d_M_faultOf_179 : decode c_M_faultOf 179 = .ok (.ifCond .eq 7, 3) := by decide +kernel
theorem d_M_faultOf_182 : decode c_M_faultOf 182 = .ok (.iload_n 1, 1) := by decide +kernel
theorem d_M_faultOf_183 : decode c_M_faultOf 183 = .ok (.goto 7, 3) := by decide +kernel
theorem d_M_faultOf_186 : decode c_M_faultOf 186 = .ok (.aload_n 0, 1) := by decide +kernel
theorem d_M_faultOf_187 : decode c_M_faultOf 187 = .ok (.getfield 96, 3) := by decide +kernel
theorem d_M_faultOf_190 : decode c_M_faultOf 190 = .ok (.putfield 96, 3) := by decide +kernel
theorem d_M_faultOf_193 : decode c_M_faultOf 193 = .ok (.iinc 1 (-1), 3) := by decide +kernel
theorem d_M_faultOf_196 : decode c_M_faultOf 196 = .ok (.goto (-31), 3) := by decide +kernel
theorem d_M_faultOf_199 : decode c_M_faultOf 199 = .ok (.aload_n 0, 1) := by decide +kernel
theorem d_M_faultOf_200 : decode c_M_faultOf 200 = .ok (.getfield 96, 3) := by decide +kernel
theorem d_M_faultOf_203 : decode c_M_faultOf 203 = .ok (.ifCond .lt 7, 3) := by decide +kernel
theorem d_M_faultOf_206 : decode c_M_faultOf 206 = .ok (.iconst 4, 1) := by decide +kernel
theorem d_M_faultOf_207 : decode c_M_faultOf 207 = .ok (.goto 4, 3) := by decide +kernel
theorem d_M_faultOf_210 : decode c_M_faultOf 210 = .ok (.iconst 0, 1) := by decide +kernel
theorem d_M_faultOf_211 : decode c_M_faultOf 211 = .ok (.ireturn, 1) := by decide +kernel
theorem d_M_makeOrder_0 : decode c_M_makeOrder 0 = .ok (.iconst 0, 1) := by decide +kernel
theorem d_M_makeOrder_1 : decode c_M_makeOrder 1 = .ok (.istore_n 1, 1) := by decide +kernel
theorem d_M_makeOrder_2 : decode c_M_makeOrder 2 = .ok (.lconst 0, 1) := by decide +kernel
theorem d_M_makeOrder_3 : decode c_M_makeOrder 3 = .ok (.lstore_n 2, 1) := by decide +kernel
theorem d_M_makeOrder_4 : decode c_M_makeOrder 4 = .ok (.iload_n 1, 1) := by decide +kernel
theorem d_M_makeOrder_5 : decode c_M_makeOrder 5 = .ok (.aload_n 0, 1) := by decide +kernel
theorem d_M_makeOrder_6 : decode c_M_makeOrder 6 = .ok (.getfield 89, 3) := by decide +kernel
theorem d_M_makeOrder_9 : decode c_M_makeOrder 9 = .ok (.if_icmp .ge 122, 3) := by decide +kernel
theorem d_M_makeOrder_12 : decode c_M_makeOrder 12 = .ok (.iconst 0, 1) := by decide +kernel
theorem d_M_makeOrder_13 : decode c_M_makeOrder 13 = .ok (.istore 4, 2) := by decide +kernel
theorem d_M_makeOrder_15 : decode c_M_makeOrder 15 = .ok (.iload 4, 2) := by decide +kernel
theorem d_M_makeOrder_17 : decode c_M_makeOrder 17 = .ok (.aload_n 0, 1) := by decide +kernel
theorem d_M_makeOrder_18 : decode c_M_makeOrder 18 = .ok (.getfield 89, 3) := by decide +kernel
theorem d_M_makeOrder_21 : decode c_M_makeOrder 21 = .ok (.if_icmp .ge 107, 3) := by decide +kernel
theorem d_M_makeOrder_24 : decode c_M_makeOrder 24 = .ok (.lload_n 2, 1) := by decide +kernel
theorem d_M_makeOrder_25 : decode c_M_makeOrder 25 = .ok (.iload 4, 2) := by decide +kernel
theorem d_M_makeOrder_27 : decode c_M_makeOrder 27 = .ok (.lshr, 1) := by decide +kernel
theorem d_M_makeOrder_28 : decode c_M_makeOrder 28 = .ok (.lconst 1, 1) := by decide +kernel
theorem d_M_makeOrder_29 : decode c_M_makeOrder 29 = .ok (.land, 1) := by decide +kernel
theorem d_M_makeOrder_30 : decode c_M_makeOrder 30 = .ok (.lconst 0, 1) := by decide +kernel
theorem d_M_makeOrder_31 : decode c_M_makeOrder 31 = .ok (.lcmp, 1) := by decide +kernel
theorem d_M_makeOrder_32 : decode c_M_makeOrder 32 = .ok (.ifCond .ne 7, 3) := by decide +kernel
theorem d_M_makeOrder_35 : decode c_M_makeOrder 35 = .ok (.iconst 1, 1) := by decide +kernel
theorem d_M_makeOrder_36 : decode c_M_makeOrder 36 = .ok (.goto 4, 3) := by decide +kernel
theorem d_M_makeOrder_39 : decode c_M_makeOrder 39 = .ok (.iconst 0, 1) := by decide +kernel
theorem d_M_makeOrder_40 : decode c_M_makeOrder 40 = .ok (.istore 5, 2) := by decide +kernel
theorem d_M_makeOrder_42 : decode c_M_makeOrder 42 = .ok (.iconst 0, 1) := by decide +kernel
theorem d_M_makeOrder_43 : decode c_M_makeOrder 43 = .ok (.istore 6, 2) := by decide +kernel
theorem d_M_makeOrder_45 : decode c_M_makeOrder 45 = .ok (.iload 6, 2) := by decide +kernel
theorem d_M_makeOrder_47 : decode c_M_makeOrder 47 = .ok (.aload_n 0, 1) := by decide +kernel
theorem d_M_makeOrder_48 : decode c_M_makeOrder 48 = .ok (.getfield 89, 3) := by decide +kernel
theorem d_M_makeOrder_51 : decode c_M_makeOrder 51 = .ok (.if_icmp .ge 48, 3) := by decide +kernel
theorem d_M_makeOrder_54 : decode c_M_makeOrder 54 = .ok (.iload 5, 2) := by decide +kernel
theorem d_M_makeOrder_56 : decode c_M_makeOrder 56 = .ok (.ifCond .eq 34, 3) := by decide +kernel
theorem d_M_makeOrder_59 : decode c_M_makeOrder 59 = .ok (.aload_n 0, 1) := by decide +kernel
theorem d_M_makeOrder_60 : decode c_M_makeOrder 60 = .ok (.getfield 23, 3) := by decide +kernel
theorem d_M_makeOrder_63 : decode c_M_makeOrder 63 = .ok (.bipush 16, 2) := by decide +kernel
theorem d_M_makeOrder_65 : decode c_M_makeOrder 65 = .ok (.iload 4, 2) := by decide +kernel
theorem d_M_makeOrder_67 : decode c_M_makeOrder 67 = .ok (.imul, 1) := by decide +kernel
theorem d_M_makeOrder_68 : decode c_M_makeOrder 68 = .ok (.iload 6, 2) := by decide +kernel
theorem d_M_makeOrder_70 : decode c_M_makeOrder 70 = .ok (.iadd, 1) := by decide +kernel
theorem d_M_makeOrder_71 : decode c_M_makeOrder 71 = .ok (.baload, 1) := by decide +kernel
theorem d_M_makeOrder_72 : decode c_M_makeOrder 72 = .ok (.ifCond .eq 14, 3) := by decide +kernel
theorem d_M_makeOrder_75 : decode c_M_makeOrder 75 = .ok (.lload_n 2, 1) := by decide +kernel
theorem d_M_makeOrder_76 : decode c_M_makeOrder 76 = .ok (.iload 6, 2) := by decide +kernel
theorem d_M_makeOrder_78 : decode c_M_makeOrder 78 = .ok (.lshr, 1) := by decide +kernel
theorem d_M_makeOrder_79 : decode c_M_makeOrder 79 = .ok (.lconst 1, 1) := by decide +kernel
theorem d_M_makeOrder_80 : decode c_M_makeOrder 80 = .ok (.land, 1) := by decide +kernel
theorem d_M_makeOrder_81 : decode c_M_makeOrder 81 = .ok (.lconst 1, 1) := by decide +kernel
theorem d_M_makeOrder_82 : decode c_M_makeOrder 82 = .ok (.lcmp, 1) := by decide +kernel
theorem d_M_makeOrder_83 : decode c_M_makeOrder 83 = .ok (.ifCond .ne 7, 3) := by decide +kernel
theorem d_M_makeOrder_86 : decode c_M_makeOrder 86 = .ok (.iconst 1, 1) := by decide +kernel
theorem d_M_makeOrder_87 : decode c_M_makeOrder 87 = .ok (.goto 4, 3) := by decide +kernel
theorem d_M_makeOrder_90 : decode c_M_makeOrder 90 = .ok (.iconst 0, 1) := by decide +kernel
theorem d_M_makeOrder_91 : decode c_M_makeOrder 91 = .ok (.istore 5, 2) := by decide +kernel
theorem d_M_makeOrder_93 : decode c_M_makeOrder 93 = .ok (.iinc 6 1, 3) := by decide +kernel
theorem d_M_makeOrder_96 : decode c_M_makeOrder 96 = .ok (.goto (-51), 3) := by decide +kernel
theorem d_M_makeOrder_99 : decode c_M_makeOrder 99 = .ok (.iload 5, 2) := by decide +kernel
theorem d_M_makeOrder_101 : decode c_M_makeOrder 101 = .ok (.ifCond .eq 21, 3) := by decide +kernel
theorem d_M_makeOrder_104 : decode c_M_makeOrder 104 = .ok (.aload_n 0, 1) := by decide +kernel
theorem d_M_makeOrder_105 : decode c_M_makeOrder 105 = .ok (.getfield 26, 3) := by decide +kernel
theorem d_M_makeOrder_108 : decode c_M_makeOrder 108 = .ok (.iload_n 1, 1) := by decide +kernel
theorem d_M_makeOrder_109 : decode c_M_makeOrder 109 = .ok (.iload 4, 2) := by decide +kernel
theorem d_M_makeOrder_111 : decode c_M_makeOrder 111 = .ok (.iastore, 1) := by decide +kernel
theorem d_M_makeOrder_112 : decode c_M_makeOrder 112 = .ok (.iinc 1 1, 3) := by decide +kernel
theorem d_M_makeOrder_115 : decode c_M_makeOrder 115 = .ok (.lload_n 2, 1) := by decide +kernel
theorem d_M_makeOrder_116 : decode c_M_makeOrder 116 = .ok (.lconst 1, 1) := by decide +kernel
theorem d_M_makeOrder_117 : decode c_M_makeOrder 117 = .ok (.iload 4, 2) := by decide +kernel
theorem d_M_makeOrder_119 : decode c_M_makeOrder 119 = .ok (.lshl, 1) := by decide +kernel
theorem d_M_makeOrder_120 : decode c_M_makeOrder 120 = .ok (.lor, 1) := by decide +kernel
theorem d_M_makeOrder_121 : decode c_M_makeOrder 121 = .ok (.lstore_n 2, 1) := by decide +kernel
theorem d_M_makeOrder_122 : decode c_M_makeOrder 122 = .ok (.iinc 4 1, 3) := by decide +kernel
theorem d_M_makeOrder_125 : decode c_M_makeOrder 125 = .ok (.goto (-110), 3) := by decide +kernel
theorem d_M_makeOrder_128 : decode c_M_makeOrder 128 = .ok (.goto (-124), 3) := by decide +kernel
theorem d_M_makeOrder_131 : decode c_M_makeOrder 131 = .ok (.return_, 1) := by decide +kernel
theorem d_M_step_0 : decode c_M_step 0 = .ok (.lconst 0, 1) := by decide +kernel
theorem d_M_step_1 : decode c_M_step 1 = .ok (.lstore 4, 2) := by decide +kernel
theorem d_M_step_3 : decode c_M_step 3 = .ok (.iconst 0, 1) := by decide +kernel
theorem d_M_step_4 : decode c_M_step 4 = .ok (.istore 6, 2) := by decide +kernel
theorem d_M_step_6 : decode c_M_step 6 = .ok (.iload 6, 2) := by decide +kernel
theorem d_M_step_8 : decode c_M_step 8 = .ok (.aload_n 0, 1) := by decide +kernel
theorem d_M_step_9 : decode c_M_step 9 = .ok (.getfield 105, 3) := by decide +kernel
theorem d_M_step_12 : decode c_M_step 12 = .ok (.if_icmp .gt 167, 3) := by decide +kernel
theorem d_M_step_15 : decode c_M_step 15 = .ok (.lload_n 1, 1) := by decide +kernel
theorem d_M_step_16 : decode c_M_step 16 = .ok (.iload 6, 2) := by decide +kernel
theorem d_M_step_18 : decode c_M_step 18 = .ok (.lshr, 1) := by decide +kernel
theorem d_M_step_19 : decode c_M_step 19 = .ok (.lconst 1, 1) := by decide +kernel
theorem d_M_step_20 : decode c_M_step 20 = .ok (.land, 1) := by decide +kernel
theorem d_M_step_21 : decode c_M_step 21 = .ok (.lconst 0, 1) := by decide +kernel
theorem d_M_step_22 : decode c_M_step 22 = .ok (.lcmp, 1) := by decide +kernel
theorem d_M_step_23 : decode c_M_step 23 = .ok (.ifCond .ne 6, 3) := by decide +kernel
theorem d_M_step_26 : decode c_M_step 26 = .ok (.goto 147, 3) := by decide +kernel
theorem d_M_step_29 : decode c_M_step 29 = .ok (.aload_n 0, 1) := by decide +kernel
theorem d_M_step_30 : decode c_M_step 30 = .ok (.iload 6, 2) := by decide +kernel
theorem d_M_step_32 : decode c_M_step 32 = .ok (.aload_n 0, 1) := by decide +kernel
theorem d_M_step_33 : decode c_M_step 33 = .ok (.getfield 108, 3) := by decide +kernel
theorem d_M_step_36 : decode c_M_step 36 = .ok (.if_icmp .le 8, 3) := by decide +kernel
theorem d_M_step_39 : decode c_M_step 39 = .ok (.iload 6, 2) := by decide +kernel
theorem d_M_step_41 : decode c_M_step 41 = .ok (.goto 7, 3) := by decide +kernel
theorem d_M_step_44 : decode c_M_step 44 = .ok (.aload_n 0, 1) := by decide +kernel
theorem d_M_step_45 : decode c_M_step 45 = .ok (.getfield 108, 3) := by decide +kernel
theorem d_M_step_48 : decode c_M_step 48 = .ok (.putfield 108, 3) := by decide +kernel
theorem d_M_step_51 : decode c_M_step 51 = .ok (.iload_n 3, 1) := by decide +kernel
theorem d_M_step_52 : decode c_M_step 52 = .ok (.invokestatic 85, 3) := by decide +kernel
theorem d_M_step_55 : decode c_M_step 55 = .ok (.ifCond .eq 61, 3) := by decide +kernel
theorem d_M_step_58 : decode c_M_step 58 = .ok (.bipush 61, 2) := by decide +kernel
theorem d_M_step_60 : decode c_M_step 60 = .ok (.iconst (-1), 1) := by decide +kernel
theorem d_M_step_61 : decode c_M_step 61 = .ok (.iload_n 3, 1) := by decide +kernel
theorem d_M_step_62 : decode c_M_step 62 = .ok (.isub, 1) := by decide +kernel
theorem d_M_step_63 : decode c_M_step 63 = .ok (.imul, 1) := by decide +kernel
theorem d_M_step_64 : decode c_M_step 64 = .ok (.iload 6, 2) := by decide +kernel
theorem d_M_step_66 : decode c_M_step 66 = .ok (.iadd, 1) := by decide +kernel
theorem d_M_step_67 : decode c_M_step 67 = .ok (.istore 7, 2) := by decide +kernel
theorem d_M_step_69 : decode c_M_step 69 = .ok (.lload 4, 2) := by decide +kernel
theorem d_M_step_71 : decode c_M_step 71 = .ok (.aload_n 0, 1) := by decide +kernel
theorem d_M_step_72 : decode c_M_step 72 = .ok (.getfield 32, 3) := by decide +kernel
theorem d_M_step_75 : decode c_M_step 75 = .ok (.iload 7, 2) := by decide +kernel
theorem d_M_step_77 : decode c_M_step 77 = .ok (.laload, 1) := by decide +kernel
theorem d_M_step_78 : decode c_M_step 78 = .ok (.lor, 1) := by decide +kernel
theorem d_M_step_79 : decode c_M_step 79 = .ok (.lstore 4, 2) := by decide +kernel
theorem d_M_step_81 : decode c_M_step 81 = .ok (.aload_n 0, 1) := by decide +kernel
theorem d_M_step_82 : decode c_M_step 82 = .ok (.aload_n 0, 1) := by decide +kernel
theorem d_M_step_83 : decode c_M_step 83 = .ok (.getfield 36, 3) := by decide +kernel
theorem d_M_step_86 : decode c_M_step 86 = .ok (.iload 7, 2) := by decide +kernel
theorem d_M_step_88 : decode c_M_step 88 = .ok (.iaload, 1) := by decide +kernel
theorem d_M_step_89 : decode c_M_step 89 = .ok (.aload_n 0, 1) := by decide +kernel
theorem d_M_step_90 : decode c_M_step 90 = .ok (.getfield 108, 3) := by decide +kernel
theorem d_M_step_93 : decode c_M_step 93 = .ok (.if_icmp .le 13, 3) := by decide +kernel
theorem d_M_step_96 : decode c_M_step 96 = .ok (.aload_n 0, 1) := by decide +kernel
theorem d_M_step_97 : decode c_M_step 97 = .ok (.getfield 36, 3) := by decide +kernel
theorem d_M_step_100 : decode c_M_step 100 = .ok (.iload 7, 2) := by decide +kernel
theorem d_M_step_102 : decode c_M_step 102 = .ok (.iaload, 1) := by decide +kernel
theorem d_M_step_103 : decode c_M_step 103 = .ok (.goto 7, 3) := by decide +kernel
theorem d_M_step_106 : decode c_M_step 106 = .ok (.aload_n 0, 1) := by decide +kernel
theorem d_M_step_107 : decode c_M_step 107 = .ok (.getfield 108, 3) := by decide +kernel
theorem d_M_step_110 : decode c_M_step 110 = .ok (.putfield 108, 3) := by decide +kernel
theorem d_M_step_113 : decode c_M_step 113 = .ok (.goto 60, 3) := by decide +kernel
theorem d_M_step_116 : decode c_M_step 116 = .ok (.iload 6, 2) := by decide +kernel
theorem d_M_step_118 : decode c_M_step 118 = .ok (.aload_n 0, 1) := by decide +kernel
theorem d_M_step_119 : decode c_M_step 119 = .ok (.getfield 105, 3) := by decide +kernel
theorem d_M_step_122 : decode c_M_step 122 = .ok (.if_icmp .ge 51, 3) := by decide +kernel
theorem d_M_step_125 : decode c_M_step 125 = .ok (.aload_n 0, 1) := by decide +kernel
theorem d_M_step_126 : decode c_M_step 126 = .ok (.getfield 29, 3) := by decide +kernel
theorem d_M_step_129 : decode c_M_step 129 = .ok (.iload 6, 2) := by decide +kernel
theorem d_M_step_131 : decode c_M_step 131 = .ok (.iaload, 1) := by decide +kernel
theorem d_M_step_132 : decode c_M_step 132 = .ok (.iload_n 3, 1) := by decide +kernel
theorem d_M_step_133 : decode c_M_step 133 = .ok (.if_icmp .ne 40, 3) := by decide +kernel
theorem d_M_step_136 : decode c_M_step 136 = .ok (.lload 4, 2) := by decide +kernel
theorem d_M_step_138 : decode c_M_step 138 = .ok (.lconst 1, 1) := by decide +kernel
theorem d_M_step_139 : decode c_M_step 139 = .ok (.iload 6, 2) := by decide +kernel
theorem d_M_step_141 : decode c_M_step 141 = .ok (.iconst 1, 1) := by decide +kernel
theorem d_M_step_142 : decode c_M_step 142 = .ok (.iadd, 1) := by decide +kernel
theorem d_M_step_143 : decode c_M_step 143 = .ok (.lshl, 1) := by decide +kernel
theorem d_M_step_144 : decode c_M_step 144 = .ok (.lor, 1) := by decide +kernel
theorem d_M_step_145 : decode c_M_step 145 = .ok (.lstore 4, 2) := by decide +kernel
theorem d_M_step_147 : decode c_M_step 147 = .ok (.aload_n 0, 1) := by decide +kernel
theorem d_M_step_148 : decode c_M_step 148 = .ok (.iload 6, 2) := by decide +kernel
theorem d_M_step_150 : decode c_M_step 150 = .ok (.iconst 1, 1) := by decide +kernel
theorem d_M_step_151 : decode c_M_step 151 = .ok (.iadd, 1) := by decide +kernel
theorem d_M_step_152 : decode c_M_step 152 = .ok (.aload_n 0, 1) := by decide +kernel
theorem d_M_step_153 : decode c_M_step 153 = .ok (.getfield 108, 3) := by decide +kernel
theorem d_M_step_156 : decode c_M_step 156 = .ok (.if_icmp .le 10, 3) := by decide +kernel
theorem d_M_step_159 : decode c_M_step 159 = .ok (.iload 6, 2) := by decide +kernel
theorem d_M_step_161 : decode c_M_step 161 = .ok (.iconst 1, 1) := by decide +kernel
theorem d_M_step_162 : decode c_M_step 162 = .ok (.iadd, 1) := by decide +kernel
theorem d_M_step_163 : decode c_M_step 163 = .ok (.goto 7, 3) := by decide +kernel
theorem d_M_step_166 : decode c_M_step 166 = .ok (.aload_n 0, 1) := by decide +kernel
theorem d_M_step_167 : decode c_M_step 167 = .ok (.getfield 108, 3) := by decide +kernel
theorem d_M_step_170 : decode c_M_step 170 = .ok (.putfield 108, 3) := by decide +kernel
theorem d_M_step_173 : decode c_M_step 173 = .ok (.iinc 6 1, 3) := by decide +kernel
theorem d_M_step_176 : decode c_M_step 176 = .ok (.goto (-170), 3) := by decide +kernel
theorem d_M_step_179 : decode c_M_step 179 = .ok (.lload 4, 2) := by decide +kernel
theorem d_M_step_181 : decode c_M_step 181 = .ok (.lreturn, 1) := by decide +kernel
theorem d_M_alongAlternative_0 : decode c_M_alongAlternative 0 = .ok (.lload_n 1, 1) := by decide +kernel
theorem d_M_alongAlternative_1 : decode c_M_alongAlternative 1 = .ok (.lstore 5, 2) := by decide +kernel
theorem d_M_alongAlternative_3 : decode c_M_alongAlternative 3 = .ok (.iconst 0, 1) := by decide +kernel
theorem d_M_alongAlternative_4 : decode c_M_alongAlternative 4 = .ok (.istore 7, 2) := by decide +kernel
theorem d_M_alongAlternative_6 : decode c_M_alongAlternative 6 = .ok (.iload 7, 2) := by decide +kernel
theorem d_M_alongAlternative_8 : decode c_M_alongAlternative 8 = .ok (.aload_n 0, 1) := by decide +kernel
theorem d_M_alongAlternative_9 : decode c_M_alongAlternative 9 = .ok (.iload_n 3, 1) := by decide +kernel
theorem d_M_alongAlternative_10 : decode c_M_alongAlternative 10 = .ok (.iload 4, 2) := by decide +kernel
theorem d_M_alongAlternative_12 : decode c_M_alongAlternative 12 = .ok (.invokevirtual 77, 3) := by decide +kernel
theorem d_M_alongAlternative_15 : decode c_M_alongAlternative 15 = .ok (.if_icmp .ge 26, 3) := by decide +kernel
theorem d_M_alongAlternative_18 : decode c_M_alongAlternative 18 = .ok (.aload_n 0, 1) := by decide +kernel
theorem d_M_alongAlternative_19 : decode c_M_alongAlternative 19 = .ok (.lload 5, 2) := by decide +kernel
theorem d_M_alongAlternative_21 : decode c_M_alongAlternative 21 = .ok (.aload_n 0, 1) := by decide +kernel
theorem d_M_alongAlternative_22 : decode c_M_alongAlternative 22 = .ok (.iload_n 3, 1) := by decide +kernel
theorem d_M_alongAlternative_23 : decode c_M_alongAlternative 23 = .ok (.iload 4, 2) := by decide +kernel
theorem d_M_alongAlternative_25 : decode c_M_alongAlternative 25 = .ok (.iload 7, 2) := by decide +kernel
theorem d_M_alongAlternative_27 : decode c_M_alongAlternative 27 = .ok (.invokevirtual 81, 3) := by decide +kernel
theorem d_M_alongAlternative_30 : decode c_M_alongAlternative 30 = .ok (.invokevirtual 111, 3) := by decide +kernel
theorem d_M_alongAlternative_33 : decode c_M_alongAlternative 33 = .ok (.lstore 5, 2) := by decide +kernel
theorem d_M_alongAlternative_35 : decode c_M_alongAlternative 35 = .ok (.iinc 7 1, 3) := by decide +kernel
theorem d_M_alongAlternative_38 : decode c_M_alongAlternative 38 = .ok (.goto (-32), 3) := by decide +kernel
theorem d_M_alongAlternative_41 : decode c_M_alongAlternative 41 = .ok (.lload 5, 2) := by decide +kernel
theorem d_M_alongAlternative_43 : decode c_M_alongAlternative 43 = .ok (.lreturn, 1) := by decide +kernel
theorem d_M_findPlaces_0 : decode c_M_findPlaces 0 = .ok (.aload_n 0, 1) := by decide +kernel
theorem d_M_findPlaces_1 : decode c_M_findPlaces 1 = .ok (.invokevirtual 115, 3) := by decide +kernel
theorem d_M_findPlaces_4 : decode c_M_findPlaces 4 = .ok (.aload_n 0, 1) := by decide +kernel
theorem d_M_findPlaces_5 : decode c_M_findPlaces 5 = .ok (.getfield 105, 3) := by decide +kernel
theorem d_M_findPlaces_8 : decode c_M_findPlaces 8 = .ok (.istore_n 1, 1) := by decide +kernel
theorem d_M_findPlaces_9 : decode c_M_findPlaces 9 = .ok (.iload_n 1, 1) := by decide +kernel
theorem d_M_findPlaces_10 : decode c_M_findPlaces 10 = .ok (.ifCond .lt 124, 3) := by decide +kernel
theorem d_M_findPlaces_13 : decode c_M_findPlaces 13 = .ok (.iconst 0, 1) := by decide +kernel
theorem d_M_findPlaces_14 : decode c_M_findPlaces 14 = .ok (.istore_n 2, 1) := by decide +kernel
theorem d_M_findPlaces_15 : decode c_M_findPlaces 15 = .ok (.iload_n 2, 1) := by decide +kernel
theorem d_M_findPlaces_16 : decode c_M_findPlaces 16 = .ok (.aload_n 0, 1) := by decide +kernel
theorem d_M_findPlaces_17 : decode c_M_findPlaces 17 = .ok (.getfield 89, 3) := by decide +kernel
theorem d_M_findPlaces_20 : decode c_M_findPlaces 20 = .ok (.if_icmp .ge 108, 3) := by decide +kernel
theorem d_M_findPlaces_23 : decode c_M_findPlaces 23 = .ok (.aload_n 0, 1) := by decide +kernel
theorem d_M_findPlaces_24 : decode c_M_findPlaces 24 = .ok (.getfield 26, 3) := by decide +kernel
theorem d_M_findPlaces_27 : decode c_M_findPlaces 27 = .ok (.iload_n 2, 1) := by decide +kernel
theorem d_M_findPlaces_28 : decode c_M_findPlaces 28 = .ok (.iaload, 1) := by decide +kernel
theorem d_M_findPlaces_29 : decode c_M_findPlaces 29 = .ok (.istore_n 3, 1) := by decide +kernel
theorem d_M_findPlaces_30 : decode c_M_findPlaces 30 = .ok (.lconst 0, 1) := by decide +kernel
theorem d_M_findPlaces_31 : decode c_M_findPlaces 31 = .ok (.lstore 4, 2) := by decide +kernel
theorem d_M_findPlaces_33 : decode c_M_findPlaces 33 = .ok (.iload_n 1, 1) := by decide +kernel
theorem d_M_findPlaces_34 : decode c_M_findPlaces 34 = .ok (.istore 6, 2) := by decide +kernel
theorem d_M_findPlaces_36 : decode c_M_findPlaces 36 = .ok (.iconst 0, 1) := by decide +kernel
theorem d_M_findPlaces_37 : decode c_M_findPlaces 37 = .ok (.istore 7, 2) := by decide +kernel
theorem d_M_findPlaces_39 : decode c_M_findPlaces 39 = .ok (.iload 7, 2) := by decide +kernel
theorem d_M_findPlaces_41 : decode c_M_findPlaces 41 = .ok (.aload_n 0, 1) := by decide +kernel
theorem d_M_findPlaces_42 : decode c_M_findPlaces 42 = .ok (.getfield 7, 3) := by decide +kernel
theorem d_M_findPlaces_45 : decode c_M_findPlaces 45 = .ok (.iload_n 3, 1) := by decide +kernel
theorem d_M_findPlaces_46 : decode c_M_findPlaces 46 = .ok (.iaload, 1) := by decide +kernel
theorem d_M_findPlaces_47 : decode c_M_findPlaces 47 = .ok (.if_icmp .ge 49, 3) := by decide +kernel
theorem d_M_findPlaces_50 : decode c_M_findPlaces 50 = .ok (.aload_n 0, 1) := by decide +kernel
theorem d_M_findPlaces_51 : decode c_M_findPlaces 51 = .ok (.iload_n 1, 1) := by decide +kernel
theorem d_M_findPlaces_52 : decode c_M_findPlaces 52 = .ok (.putfield 108, 3) := by decide +kernel
theorem d_M_findPlaces_55 : decode c_M_findPlaces 55 = .ok (.lload 4, 2) := by decide +kernel
theorem d_M_findPlaces_57 : decode c_M_findPlaces 57 = .ok (.aload_n 0, 1) := by decide +kernel
theorem d_M_findPlaces_58 : decode c_M_findPlaces 58 = .ok (.lconst 1, 1) := by decide +kernel
theorem d_M_findPlaces_59 : decode c_M_findPlaces 59 = .ok (.iload_n 1, 1) := by decide +kernel
theorem d_M_findPlaces_60 : decode c_M_findPlaces 60 = .ok (.lshl, 1) := by decide +kernel
theorem d_M_findPlaces_61 : decode c_M_findPlaces 61 = .ok (.iload_n 3, 1) := by decide +kernel
theorem d_M_findPlaces_62 : decode c_M_findPlaces 62 = .ok (.iload 7, 2) := by decide +kernel
theorem d_M_findPlaces_64 : decode c_M_findPlaces 64 = .ok (.invokevirtual 118, 3) := by decide +kernel
theorem d_M_findPlaces_67 : decode c_M_findPlaces 67 = .ok (.lor, 1) := by decide +kernel
theorem d_M_findPlaces_68 : decode c_M_findPlaces 68 = .ok (.lstore 4, 2) := by decide +kernel
theorem d_M_findPlaces_70 : decode c_M_findPlaces 70 = .ok (.aload_n 0, 1) := by decide +kernel
theorem d_M_findPlaces_71 : decode c_M_findPlaces 71 = .ok (.getfield 108, 3) := by decide +kernel
theorem d_M_findPlaces_74 : decode c_M_findPlaces 74 = .ok (.iload 6, 2) := by decide +kernel
theorem d_M_findPlaces_76 : decode c_M_findPlaces 76 = .ok (.if_icmp .le 10, 3) := by decide +kernel
theorem d_M_findPlaces_79 : decode c_M_findPlaces 79 = .ok (.aload_n 0, 1) := by decide +kernel
theorem d_M_findPlaces_80 : decode c_M_findPlaces 80 = .ok (.getfield 108, 3) := by decide +kernel
theorem d_M_findPlaces_83 : decode c_M_findPlaces 83 = .ok (.goto 5, 3) := by decide +kernel
theorem d_M_findPlaces_86 : decode c_M_findPlaces 86 = .ok (.iload 6, 2) := by decide +kernel
theorem d_M_findPlaces_88 : decode c_M_findPlaces 88 = .ok (.istore 6, 2) := by decide +kernel
theorem d_M_findPlaces_90 : decode c_M_findPlaces 90 = .ok (.iinc 7 1, 3) := by decide +kernel
theorem d_M_findPlaces_93 : decode c_M_findPlaces 93 = .ok (.goto (-54), 3) := by decide +kernel
theorem d_M_findPlaces_96 : decode c_M_findPlaces 96 = .ok (.aload_n 0, 1) := by decide +kernel
theorem d_M_findPlaces_97 : decode c_M_findPlaces 97 = .ok (.getfield 32, 3) := by decide +kernel
theorem d_M_findPlaces_100 : decode c_M_findPlaces 100 = .ok (.bipush 61, 2) := by decide +kernel
theorem d_M_findPlaces_102 : decode c_M_findPlaces 102 = .ok (.iload_n 3, 1) := by decide +kernel
theorem d_M_findPlaces_103 : decode c_M_findPlaces 103 = .ok (.imul, 1) := by decide +kernel
theorem d_M_findPlaces_104 : decode c_M_findPlaces 104 = .ok (.iload_n 1, 1) := by decide +kernel
theorem d_M_findPlaces_105 : decode c_M_findPlaces 105 = .ok (.iadd, 1) := by decide +kernel
theorem d_M_findPlaces_106 : decode c_M_findPlaces 106 = .ok (.lload 4, 2) := by decide +kernel
theorem d_M_findPlaces_108 : decode c_M_findPlaces 108 = .ok (.lastore, 1) := by decide +kernel
theorem d_M_findPlaces_109 : decode c_M_findPlaces 109 = .ok (.aload_n 0, 1) := by decide +kernel
theorem d_M_findPlaces_110 : decode c_M_findPlaces 110 = .ok (.getfield 36, 3) := by decide +kernel
theorem d_M_findPlaces_113 : decode c_M_findPlaces 113 = .ok (.bipush 61, 2) := by decide +kernel
theorem d_M_findPlaces_115 : decode c_M_findPlaces 115 = .ok (.iload_n 3, 1) := by decide +kernel
theorem d_M_findPlaces_116 : decode c_M_findPlaces 116 = .ok (.imul, 1) := by decide +kernel
theorem d_M_findPlaces_117 : decode c_M_findPlaces 117 = .ok (.iload_n 1, 1) := by decide +kernel
theorem d_M_findPlaces_118 : decode c_M_findPlaces 118 = .ok (.iadd, 1) := by decide +kernel
theorem d_M_findPlaces_119 : decode c_M_findPlaces 119 = .ok (.iload 6, 2) := by decide +kernel
theorem d_M_findPlaces_121 : decode c_M_findPlaces 121 = .ok (.iastore, 1) := by decide +kernel
theorem d_M_findPlaces_122 : decode c_M_findPlaces 122 = .ok (.iinc 2 1, 3) := by decide +kernel
theorem d_M_findPlaces_125 : decode c_M_findPlaces 125 = .ok (.goto (-110), 3) := by decide +kernel
theorem d_M_findPlaces_128 : decode c_M_findPlaces 128 = .ok (.iinc 1 (-1), 3) := by decide +kernel
theorem d_M_findPlaces_131 : decode c_M_findPlaces 131 = .ok (.goto (-122), 3) := by decide +kernel
theorem d_M_findPlaces_134 : decode c_M_findPlaces 134 = .ok (.return_, 1) := by decide +kernel
theorem d_M_capped_0 : decode c_M_capped 0 = .ok (.lload_n 0, 1) := by decide +kernel
theorem d_M_capped_1 : decode c_M_capped 1 = .ok (.ldc2_w 122, 3) := by decide +kernel
theorem d_M_capped_4 : decode c_M_capped 4 = .ok (.lcmp, 1) := by decide +kernel
theorem d_M_capped_5 : decode c_M_capped 5 = .ok (.ifCond .le 9, 3) := by decide +kernel
theorem d_M_capped_8 : decode c_M_capped 8 = .ok (.ldc2_w 122, 3) := by decide +kernel
theorem d_M_capped_11 : decode c_M_capped 11 = .ok (.goto 4, 3) := by decide +kernel
theorem d_M_capped_14 : decode c_M_capped 14 = .ok (.lload_n 0, 1) := by decide +kernel
theorem d_M_capped_15 : decode c_M_capped 15 = .ok (.lreturn, 1) := by decide +kernel
theorem d_M_findWays_0 : decode c_M_findWays 0 = .ok (.aload_n 0, 1) := by decide +kernel
theorem d_M_findWays_1 : decode c_M_findWays 1 = .ok (.getfield 105, 3) := by decide +kernel
theorem d_M_findWays_4 : decode c_M_findWays 4 = .ok (.istore_n 1, 1) := by decide +kernel
theorem d_M_findWays_5 : decode c_M_findWays 5 = .ok (.iload_n 1, 1) := by decide +kernel
theorem d_M_findWays_6 : decode c_M_findWays 6 = .ok (.ifCond .lt 162, 3) := by decide +kernel
theorem d_M_findWays_9 : decode c_M_findWays 9 = .ok (.iconst 0, 1) := by decide +kernel
theorem d_M_findWays_10 : decode c_M_findWays 10 = .ok (.istore_n 2, 1) := by decide +kernel
theorem d_M_findWays_11 : decode c_M_findWays 11 = .ok (.iload_n 2, 1) := by decide +kernel
theorem d_M_findWays_12 : decode c_M_findWays 12 = .ok (.aload_n 0, 1) := by decide +kernel
theorem d_M_findWays_13 : decode c_M_findWays 13 = .ok (.getfield 89, 3) := by decide +kernel
theorem d_M_findWays_16 : decode c_M_findWays 16 = .ok (.if_icmp .ge 146, 3) := by decide +kernel
theorem d_M_findWays_19 : decode c_M_findWays 19 = .ok (.aload_n 0, 1) := by decide +kernel
theorem d_M_findWays_20 : decode c_M_findWays 20 = .ok (.getfield 26, 3) := by decide +kernel
theorem d_M_findWays_23 : decode c_M_findWays 23 = .ok (.iload_n 2, 1) := by decide +kernel
theorem d_M_findWays_24 : decode c_M_findWays 24 = .ok (.iaload, 1) := by decide +kernel
theorem d_M_findWays_25 : decode c_M_findWays 25 = .ok (.istore_n 3, 1) := by decide +kernel
theorem d_M_findWays_26 : decode c_M_findWays 26 = .ok (.bipush 61, 2) := by decide +kernel
theorem d_M_findWays_28 : decode c_M_findWays 28 = .ok (.bipush 61, 2) := by decide +kernel
theorem d_M_findWays_30 : decode c_M_findWays 30 = .ok (.iload_n 3, 1) := by decide +kernel
theorem d_M_findWays_31 : decode c_M_findWays 31 = .ok (.imul, 1) := by decide +kernel
theorem d_M_findWays_32 : decode c_M_findWays 32 = .ok (.iload_n 1, 1) := by decide +kernel
theorem d_M_findWays_33 : decode c_M_findWays 33 = .ok (.iadd, 1) := by decide +kernel
theorem d_M_findWays_34 : decode c_M_findWays 34 = .ok (.imul, 1) := by decide +kernel
theorem d_M_findWays_35 : decode c_M_findWays 35 = .ok (.istore 4, 2) := by decide +kernel
theorem d_M_findWays_37 : decode c_M_findWays 37 = .ok (.iconst 0, 1) := by decide +kernel
theorem d_M_findWays_38 : decode c_M_findWays 38 = .ok (.istore 5, 2) := by decide +kernel
theorem d_M_findWays_40 : decode c_M_findWays 40 = .ok (.iload 5, 2) := by decide +kernel
theorem d_M_findWays_42 : decode c_M_findWays 42 = .ok (.bipush 60, 2) := by decide +kernel
theorem d_M_findWays_44 : decode c_M_findWays 44 = .ok (.if_icmp .gt 20, 3) := by decide +kernel
theorem d_M_findWays_47 : decode c_M_findWays 47 = .ok (.aload_n 0, 1) := by decide +kernel
theorem d_M_findWays_48 : decode c_M_findWays 48 = .ok (.getfield 43, 3) := by decide +kernel
theorem d_M_findWays_51 : decode c_M_findWays 51 = .ok (.iload 4, 2) := by decide +kernel
theorem d_M_findWays_53 : decode c_M_findWays 53 = .ok (.iload 5, 2) := by decide +kernel
theorem d_M_findWays_55 : decode c_M_findWays 55 = .ok (.iadd, 1) := by decide +kernel
theorem d_M_findWays_56 : decode c_M_findWays 56 = .ok (.lconst 0, 1) := by decide +kernel
theorem d_M_findWays_57 : decode c_M_findWays 57 = .ok (.lastore, 1) := by decide +kernel
theorem d_M_findWays_58 : decode c_M_findWays 58 = .ok (.iinc 5 1, 3) := by decide +kernel
theorem d_M_findWays_61 : decode c_M_findWays 61 = .ok (.goto (-21), 3) := by decide +kernel
theorem d_M_findWays_64 : decode c_M_findWays 64 = .ok (.iconst 0, 1) := by decide +kernel
theorem d_M_findWays_65 : decode c_M_findWays 65 = .ok (.istore 5, 2) := by decide +kernel
theorem d_M_findWays_67 : decode c_M_findWays 67 = .ok (.iload 5, 2) := by decide +kernel
theorem d_M_findWays_69 : decode c_M_findWays 69 = .ok (.aload_n 0, 1) := by decide +kernel
theorem d_M_findWays_70 : decode c_M_findWays 70 = .ok (.getfield 7, 3) := by decide +kernel
theorem d_M_findWays_73 : decode c_M_findWays 73 = .ok (.iload_n 3, 1) := by decide +kernel
theorem d_M_findWays_74 : decode c_M_findWays 74 = .ok (.iaload, 1) := by decide +kernel
theorem d_M_findWays_75 : decode c_M_findWays 75 = .ok (.if_icmp .ge 81, 3) := by decide +kernel
theorem d_M_findWays_78 : decode c_M_findWays 78 = .ok (.aload_n 0, 1) := by decide +kernel
theorem d_M_findWays_79 : decode c_M_findWays 79 = .ok (.lconst 1, 1) := by decide +kernel
theorem d_M_findWays_80 : decode c_M_findWays 80 = .ok (.iload_n 1, 1) := by decide +kernel
theorem d_M_findWays_81 : decode c_M_findWays 81 = .ok (.lshl, 1) := by decide +kernel
theorem d_M_findWays_82 : decode c_M_findWays 82 = .ok (.iload_n 3, 1) := by decide +kernel
theorem d_M_findWays_83 : decode c_M_findWays 83 = .ok (.iload 5, 2) := by decide +kernel
theorem d_M_findWays_85 : decode c_M_findWays 85 = .ok (.invokevirtual 118, 3) := by decide +kernel
theorem d_M_findWays_88 : decode c_M_findWays 88 = .ok (.lconst 0, 1) := by decide +kernel
theorem d_M_findWays_89 : decode c_M_findWays 89 = .ok (.lcmp, 1) := by decide +kernel
theorem d_M_findWays_90 : decode c_M_findWays 90 = .ok (.ifCond .eq 60, 3) := by decide +kernel
theorem d_M_findWays_93 : decode c_M_findWays 93 = .ok (.aload_n 0, 1) := by decide +kernel
theorem d_M_findWays_94 : decode c_M_findWays 94 = .ok (.iload_n 3, 1) := by decide +kernel
theorem d_M_findWays_95 : decode c_M_findWays 95 = .ok (.iload 5, 2) := by decide +kernel
theorem d_M_findWays_97 : decode c_M_findWays 97 = .ok (.iload_n 1, 1) := by decide +kernel
theorem d_M_findWays_98 : decode c_M_findWays 98 = .ok (.invokevirtual 124, 3) := by decide +kernel
theorem d_M_findWays_101 : decode c_M_findWays 101 = .ok (.iload_n 1, 1) := by decide +kernel
theorem d_M_findWays_102 : decode c_M_findWays 102 = .ok (.istore 6, 2) := by decide +kernel
theorem d_M_findWays_104 : decode c_M_findWays 104 = .ok (.iload 6, 2) := by decide +kernel
theorem d_M_findWays_106 : decode c_M_findWays 106 = .ok (.aload_n 0, 1) := by decide +kernel
theorem d_M_findWays_107 : decode c_M_findWays 107 = .ok (.getfield 105, 3) := by decide +kernel
theorem d_M_findWays_110 : decode c_M_findWays 110 = .ok (.if_icmp .gt 40, 3) := by decide +kernel
theorem d_M_findWays_113 : decode c_M_findWays 113 = .ok (.aload_n 0, 1) := by decide +kernel
theorem d_M_findWays_114 : decode c_M_findWays 114 = .ok (.getfield 43, 3) := by decide +kernel
theorem d_M_findWays_117 : decode c_M_findWays 117 = .ok (.iload 4, 2) := by decide +kernel
theorem d_M_findWays_119 : decode c_M_findWays 119 = .ok (.iload 6, 2) := by decide +kernel
theorem d_M_findWays_121 : decode c_M_findWays 121 = .ok (.iadd, 1) := by decide +kernel
theorem d_M_findWays_122 : decode c_M_findWays 122 = .ok (.aload_n 0, 1) := by decide +kernel
theorem d_M_findWays_123 : decode c_M_findWays 123 = .ok (.getfield 43, 3) := by decide +kernel
theorem d_M_findWays_126 : decode c_M_findWays 126 = .ok (.iload 4, 2) := by decide +kernel
theorem d_M_findWays_128 : decode c_M_findWays 128 = .ok (.iload 6, 2) := by decide +kernel
theorem d_M_findWays_130 : decode c_M_findWays 130 = .ok (.iadd, 1) := by decide +kernel
theorem d_M_findWays_131 : decode c_M_findWays 131 = .ok (.laload, 1) := by decide +kernel
theorem d_M_findWays_132 : decode c_M_findWays 132 = .ok (.aload_n 0, 1) := by decide +kernel
theorem d_M_findWays_133 : decode c_M_findWays 133 = .ok (.getfield 46, 3) := by decide +kernel
theorem d_M_findWays_136 : decode c_M_findWays 136 = .ok (.iload 6, 2) := by decide +kernel
theorem d_M_findWays_138 : decode c_M_findWays 138 = .ok (.laload, 1) := by decide +kernel
theorem d_M_findWays_139 : decode c_M_findWays 139 = .ok (.ladd, 1) := by decide +kernel
theorem d_M_findWays_140 : decode c_M_findWays 140 = .ok (.invokestatic 128, 3) := by decide +kernel
theorem d_M_findWays_143 : decode c_M_findWays 143 = .ok (.lastore, 1) := by decide +kernel
theorem d_M_findWays_144 : decode c_M_findWays 144 = .ok (.iinc 6 1, 3) := by decide +kernel
theorem d_M_findWays_147 : decode c_M_findWays 147 = .ok (.goto (-43), 3) := by decide +kernel
theorem d_M_findWays_150 : decode c_M_findWays 150 = .ok (.iinc 5 1, 3) := by decide +kernel
theorem d_M_findWays_153 : decode c_M_findWays 153 = .ok (.goto (-86), 3) := by decide +kernel
theorem d_M_findWays_156 : decode c_M_findWays 156 = .ok (.iinc 2 1, 3) := by decide +kernel
theorem d_M_findWays_159 : decode c_M_findWays 159 = .ok (.goto (-148), 3) := by decide +kernel
theorem d_M_findWays_162 : decode c_M_findWays 162 = .ok (.iinc 1 (-1), 3) := by decide +kernel
theorem d_M_findWays_165 : decode c_M_findWays 165 = .ok (.goto (-160), 3) := by decide +kernel
theorem d_M_findWays_168 : decode c_M_findWays 168 = .ok (.return_, 1) := by decide +kernel
theorem d_M_waysAlong_0 : decode c_M_waysAlong 0 = .ok (.iconst 0, 1) := by decide +kernel
theorem d_M_waysAlong_1 : decode c_M_waysAlong 1 = .ok (.istore 4, 2) := by decide +kernel
theorem d_M_waysAlong_3 : decode c_M_waysAlong 3 = .ok (.iload 4, 2) := by decide +kernel
theorem d_M_waysAlong_5 : decode c_M_waysAlong 5 = .ok (.bipush 60, 2) := by decide +kernel
theorem d_M_waysAlong_7 : decode c_M_waysAlong 7 = .ok (.if_icmp .gt 27, 3) := by decide +kernel
theorem d_M_waysAlong_10 : decode c_M_waysAlong 10 = .ok (.aload_n 0, 1) := by decide +kernel
theorem d_M_waysAlong_11 : decode c_M_waysAlong 11 = .ok (.getfield 46, 3) := by decide +kernel
theorem d_M_waysAlong_14 : decode c_M_waysAlong 14 = .ok (.iload 4, 2) := by decide +kernel
theorem d_M_waysAlong_16 : decode c_M_waysAlong 16 = .ok (.iload 4, 2) := by decide +kernel
theorem d_M_waysAlong_18 : decode c_M_waysAlong 18 = .ok (.iload_n 3, 1) := by decide +kernel
theorem d_M_waysAlong_19 : decode c_M_waysAlong 19 = .ok (.if_icmp .ne 7, 3) := by decide +kernel
theorem d_M_waysAlong_22 : decode c_M_waysAlong 22 = .ok (.lconst 1, 1) := by decide +kernel
theorem d_M_waysAlong_23 : decode c_M_waysAlong 23 = .ok (.goto 4, 3) := by decide +kernel
theorem d_M_waysAlong_26 : decode c_M_waysAlong 26 = .ok (.lconst 0, 1) := by decide +kernel
theorem d_M_waysAlong_27 : decode c_M_waysAlong 27 = .ok (.lastore, 1) := by decide +kernel
theorem d_M_waysAlong_28 : decode c_M_waysAlong 28 = .ok (.iinc 4 1, 3) := by decide +kernel
theorem d_M_waysAlong_31 : decode c_M_waysAlong 31 = .ok (.goto (-28), 3) := by decide +kernel
theorem d_M_waysAlong_34 : decode c_M_waysAlong 34 = .ok (.iconst 0, 1) := by decide +kernel
theorem d_M_waysAlong_35 : decode c_M_waysAlong 35 = .ok (.istore 4, 2) := by decide +kernel
theorem d_M_waysAlong_37 : decode c_M_waysAlong 37 = .ok (.iload 4, 2) := by decide +kernel
theorem d_M_waysAlong_39 : decode c_M_waysAlong 39 = .ok (.aload_n 0, 1) := by decide +kernel
theorem d_M_waysAlong_40 : decode c_M_waysAlong 40 = .ok (.iload_n 1, 1) := by decide +kernel
theorem d_M_waysAlong_41 : decode c_M_waysAlong 41 = .ok (.iload_n 2, 1) := by decide +kernel
theorem d_M_waysAlong_42 : decode c_M_waysAlong 42 = .ok (.invokevirtual 77, 3) := by decide +kernel
theorem d_M_waysAlong_45 : decode c_M_waysAlong 45 = .ok (.if_icmp .ge 267, 3) := by decide +kernel
theorem d_M_waysAlong_48 : decode c_M_waysAlong 48 = .ok (.aload_n 0, 1) := by decide +kernel
theorem d_M_waysAlong_49 : decode c_M_waysAlong 49 = .ok (.iload_n 1, 1) := by decide +kernel
theorem d_M_waysAlong_50 : decode c_M_waysAlong 50 = .ok (.iload_n 2, 1) := by decide +kernel
theorem d_M_waysAlong_51 : decode c_M_waysAlong 51 = .ok (.iload 4, 2) := by decide +kernel
theorem d_M_waysAlong_53 : decode c_M_waysAlong 53 = .ok (.invokevirtual 81, 3) := by decide +kernel
theorem d_M_waysAlong_56 : decode c_M_waysAlong 56 = .ok (.istore 5, 2) := by decide +kernel
theorem d_M_waysAlong_58 : decode c_M_waysAlong 58 = .ok (.iconst 0, 1) := by decide +kernel
theorem d_M_waysAlong_59 : decode c_M_waysAlong 59 = .ok (.istore 6, 2) := by decide +kernel
theorem d_M_waysAlong_61 : decode c_M_waysAlong 61 = .ok (.iload 6, 2) := by decide +kernel
theorem d_M_waysAlong_63 : decode c_M_waysAlong 63 = .ok (.bipush 60, 2) := by decide +kernel
theorem d_M_waysAlong_65 : decode c_M_waysAlong 65 = .ok (.if_icmp .gt 17, 3) := by decide +kernel
theorem d_M_waysAlong_68 : decode c_M_waysAlong 68 = .ok (.aload_n 0, 1) := by decide +kernel
theorem d_M_waysAlong_69 : decode c_M_waysAlong 69 = .ok (.getfield 49, 3) := by decide +kernel
theorem d_M_waysAlong_72 : decode c_M_waysAlong 72 = .ok (.iload 6, 2) := by decide +kernel
theorem d_M_waysAlong_74 : decode c_M_waysAlong 74 = .ok (.lconst 0, 1) := by decide +kernel
theorem d_M_waysAlong_75 : decode c_M_waysAlong 75 = .ok (.lastore, 1) := by decide +kernel
theorem d_M_waysAlong_76 : decode c_M_waysAlong 76 = .ok (.iinc 6 1, 3) := by decide +kernel
theorem d_M_waysAlong_79 : decode c_M_waysAlong 79 = .ok (.goto (-18), 3) := by decide +kernel
theorem d_M_waysAlong_82 : decode c_M_waysAlong 82 = .ok (.iload_n 3, 1) := by decide +kernel
theorem d_M_waysAlong_83 : decode c_M_waysAlong 83 = .ok (.istore 6, 2) := by decide +kernel
theorem d_M_waysAlong_85 : decode c_M_waysAlong 85 = .ok (.iload 6, 2) := by decide +kernel
theorem d_M_waysAlong_87 : decode c_M_waysAlong 87 = .ok (.aload_n 0, 1) := by decide +kernel
theorem d_M_waysAlong_88 : decode c_M_waysAlong 88 = .ok (.getfield 105, 3) := by decide +kernel
theorem d_M_waysAlong_91 : decode c_M_waysAlong 91 = .ok (.if_icmp .gt 185, 3) := by decide +kernel
theorem d_M_waysAlong_94 : decode c_M_waysAlong 94 = .ok (.aload_n 0, 1) := by decide +kernel
theorem d_M_waysAlong_95 : decode c_M_waysAlong 95 = .ok (.getfield 46, 3) := by decide +kernel
theorem d_M_waysAlong_98 : decode c_M_waysAlong 98 = .ok (.iload 6, 2) := by decide +kernel
theorem d_M_waysAlong_100 : decode c_M_waysAlong 100 = .ok (.laload, 1) := by decide +kernel
theorem d_M_waysAlong_101 : decode c_M_waysAlong 101 = .ok (.lconst 0, 1) := by decide +kernel
theorem d_M_waysAlong_102 : decode c_M_waysAlong 102 = .ok (.lcmp, 1) := by decide +kernel
theorem d_M_waysAlong_103 : decode c_M_waysAlong 103 = .ok (.ifCond .ne 6, 3) := by decide +kernel
theorem d_M_waysAlong_106 : decode c_M_waysAlong 106 = .ok (.goto 164, 3) := by decide +kernel
theorem d_M_waysAlong_109 : decode c_M_waysAlong 109 = .ok (.iload 5, 2) := by decide +kernel
theorem d_M_waysAlong_111 : decode c_M_waysAlong 111 = .ok (.invokestatic 85, 3) := by decide +kernel
theorem d_M_waysAlong_114 : decode c_M_waysAlong 114 = .ok (.ifCond .ne 56, 3) := by decide +kernel
theorem d_M_waysAlong_117 : decode c_M_waysAlong 117 = .ok (.iload 6, 2) := by decide +kernel
theorem d_M_waysAlong_119 : decode c_M_waysAlong 119 = .ok (.aload_n 0, 1) := by decide +kernel
theorem d_M_waysAlong_120 : decode c_M_waysAlong 120 = .ok (.getfield 105, 3) := by decide +kernel
theorem d_M_waysAlong_123 : decode c_M_waysAlong 123 = .ok (.if_icmp .ge 147, 3) := by decide +kernel
theorem d_M_waysAlong_126 : decode c_M_waysAlong 126 = .ok (.aload_n 0, 1) := by decide +kernel
theorem d_M_waysAlong_127 : decode c_M_waysAlong 127 = .ok (.getfield 29, 3) := by decide +kernel
theorem d_M_waysAlong_130 : decode c_M_waysAlong 130 = .ok (.iload 6, 2) := by decide +kernel
theorem d_M_waysAlong_132 : decode c_M_waysAlong 132 = .ok (.iaload, 1) := by decide +kernel
theorem d_M_waysAlong_133 : decode c_M_waysAlong 133 = .ok (.iload 5, 2) := by decide +kernel
theorem d_M_waysAlong_135 : decode c_M_waysAlong 135 = .ok (.if_icmp .ne 135, 3) := by decide +kernel
theorem d_M_waysAlong_138 : decode c_M_waysAlong 138 = .ok (.aload_n 0, 1) := by decide +kernel
theorem d_M_waysAlong_139 : decode c_M_waysAlong 139 = .ok (.getfield 49, 3) := by decide +kernel
theorem d_M_waysAlong_142 : decode c_M_waysAlong 142 = .ok (.iload 6, 2) := by decide +kernel
theorem d_M_waysAlong_144 : decode c_M_waysAlong 144 = .ok (.iconst 1, 1) := by decide +kernel
theorem d_M_waysAlong_145 : decode c_M_waysAlong 145 = .ok (.iadd, 1) := by decide +kernel
theorem d_M_waysAlong_146 : decode c_M_waysAlong 146 = .ok (.aload_n 0, 1) := by decide +kernel
theorem d_M_waysAlong_147 : decode c_M_waysAlong 147 = .ok (.getfield 49, 3) := by decide +kernel
theorem d_M_waysAlong_150 : decode c_M_waysAlong 150 = .ok (.iload 6, 2) := by decide +kernel
theorem d_M_waysAlong_152 : decode c_M_waysAlong 152 = .ok (.iconst 1, 1) := by decide +kernel
theorem d_M_waysAlong_153 : decode c_M_waysAlong 153 = .ok (.iadd, 1) := by decide +kernel
theorem d_M_waysAlong_154 : decode c_M_waysAlong 154 = .ok (.laload, 1) := by decide +kernel
theorem d_M_waysAlong_155 : decode c_M_waysAlong 155 = .ok (.aload_n 0, 1) := by decide +kernel
theorem d_M_waysAlong_156 : decode c_M_waysAlong 156 = .ok (.getfield 46, 3) := by decide +kernel
theorem d_M_waysAlong_159 : decode c_M_waysAlong 159 = .ok (.iload 6, 2) := by decide +kernel
theorem d_M_waysAlong_161 : decode c_M_waysAlong 161 = .ok (.laload, 1) := by decide +kernel
theorem d_M_waysAlong_162 : decode c_M_waysAlong 162 = .ok (.ladd, 1) := by decide +kernel
theorem d_M_waysAlong_163 : decode c_M_waysAlong 163 = .ok (.invokestatic 128, 3) := by decide +kernel
theorem d_M_waysAlong_166 : decode c_M_waysAlong 166 = .ok (.lastore, 1) := by decide +kernel
theorem d_M_waysAlong_167 : decode c_M_waysAlong 167 = .ok (.goto 103, 3) := by decide +kernel
theorem d_M_waysAlong_170 : decode c_M_waysAlong 170 = .ok (.bipush 61, 2) := by decide +kernel
theorem d_M_waysAlong_172 : decode c_M_waysAlong 172 = .ok (.bipush 61, 2) := by decide +kernel
theorem d_M_waysAlong_174 : decode c_M_waysAlong 174 = .ok (.iconst (-1), 1) := by decide +kernel
theorem d_M_waysAlong_175 : decode c_M_waysAlong 175 = .ok (.iload 5, 2) := by decide +kernel
theorem d_M_waysAlong_177 : decode c_M_waysAlong 177 = .ok (.isub, 1) := by decide +kernel
theorem d_M_waysAlong_178 : decode c_M_waysAlong 178 = .ok (.imul, 1) := by decide +kernel
theorem d_M_waysAlong_179 : decode c_M_waysAlong 179 = .ok (.iload 6, 2) := by decide +kernel
theorem d_M_waysAlong_181 : decode c_M_waysAlong 181 = .ok (.iadd, 1) := by decide +kernel
theorem d_M_waysAlong_182 : decode c_M_waysAlong 182 = .ok (.imul, 1) := by decide +kernel
theorem d_M_waysAlong_183 : decode c_M_waysAlong 183 = .ok (.istore 7, 2) := by decide +kernel
theorem d_M_waysAlong_185 : decode c_M_waysAlong 185 = .ok (.aload_n 0, 1) := by decide +kernel
theorem d_M_waysAlong_186 : decode c_M_waysAlong 186 = .ok (.getfield 32, 3) := by decide +kernel
theorem d_M_waysAlong_189 : decode c_M_waysAlong 189 = .ok (.bipush 61, 2) := by decide +kernel
theorem d_M_waysAlong_191 : decode c_M_waysAlong 191 = .ok (.iconst (-1), 1) := by decide +kernel
theorem d_M_waysAlong_192 : decode c_M_waysAlong 192 = .ok (.iload 5, 2) := by decide +kernel
theorem d_M_waysAlong_194 : decode c_M_waysAlong 194 = .ok (.isub, 1) := by decide +kernel
theorem d_M_waysAlong_195 : decode c_M_waysAlong 195 = .ok (.imul, 1) := by decide +kernel
theorem d_M_waysAlong_196 : decode c_M_waysAlong 196 = .ok (.iload 6, 2) := by decide +kernel
theorem d_M_waysAlong_198 : decode c_M_waysAlong 198 = .ok (.iadd, 1) := by decide +kernel
theorem d_M_waysAlong_199 : decode c_M_waysAlong 199 = .ok (.laload, 1) := by decide +kernel
theorem d_M_waysAlong_200 : decode c_M_waysAlong 200 = .ok (.lstore 8, 2) := by decide +kernel
theorem d_M_waysAlong_202 : decode c_M_waysAlong 202 = .ok (.iload 6, 2) := by decide +kernel
theorem d_M_waysAlong_204 : decode c_M_waysAlong 204 = .ok (.istore 10, 2) := by decide +kernel
theorem d_M_waysAlong_206 : decode c_M_waysAlong 206 = .ok (.iload 10, 2) := by decide +kernel
theorem d_M_waysAlong_208 : decode c_M_waysAlong 208 = .ok (.aload_n 0, 1) := by decide +kernel
theorem d_M_waysAlong_209 : decode c_M_waysAlong 209 = .ok (.getfield 105, 3) := by decide +kernel
theorem d_M_waysAlong_212 : decode c_M_waysAlong 212 = .ok (.if_icmp .gt 58, 3) := by decide +kernel
theorem d_M_waysAlong_215 : decode c_M_waysAlong 215 = .ok (.lload 8, 2) := by decide +kernel
theorem d_M_waysAlong_217 : decode c_M_waysAlong 217 = .ok (.iload 10, 2) := by decide +kernel
theorem d_M_waysAlong_219 : decode c_M_waysAlong 219 = .ok (.lshr, 1) := by decide +kernel
theorem d_M_waysAlong_220 : decode c_M_waysAlong 220 = .ok (.lconst 0, 1) := by decide +kernel
theorem d_M_waysAlong_221 : decode c_M_waysAlong 221 = .ok (.lcmp, 1) := by decide +kernel
theorem d_M_waysAlong_222 : decode c_M_waysAlong 222 = .ok (.ifCond .eq 48, 3) := by decide +kernel
theorem d_M_waysAlong_225 : decode c_M_waysAlong 225 = .ok (.aload_n 0, 1) := by decide +kernel
theorem d_M_waysAlong_226 : decode c_M_waysAlong 226 = .ok (.getfield 49, 3) := by decide +kernel
theorem d_M_waysAlong_229 : decode c_M_waysAlong 229 = .ok (.iload 10, 2) := by decide +kernel
theorem d_M_waysAlong_231 : decode c_M_waysAlong 231 = .ok (.aload_n 0, 1) := by decide +kernel
theorem d_M_waysAlong_232 : decode c_M_waysAlong 232 = .ok (.getfield 49, 3) := by decide +kernel
theorem d_M_waysAlong_235 : decode c_M_waysAlong 235 = .ok (.iload 10, 2) := by decide +kernel
theorem d_M_waysAlong_237 : decode c_M_waysAlong 237 = .ok (.laload, 1) := by decide +kernel
theorem d_M_waysAlong_238 : decode c_M_waysAlong 238 = .ok (.aload_n 0, 1) := by decide +kernel
theorem d_M_waysAlong_239 : decode c_M_waysAlong 239 = .ok (.getfield 46, 3) := by decide +kernel
theorem d_M_waysAlong_242 : decode c_M_waysAlong 242 = .ok (.iload 6, 2) := by decide +kernel
theorem d_M_waysAlong_244 : decode c_M_waysAlong 244 = .ok (.laload, 1) := by decide +kernel
theorem d_M_waysAlong_245 : decode c_M_waysAlong 245 = .ok (.aload_n 0, 1) := by decide +kernel
theorem d_M_waysAlong_246 : decode c_M_waysAlong 246 = .ok (.getfield 43, 3) := by decide +kernel
theorem d_M_waysAlong_249 : decode c_M_waysAlong 249 = .ok (.iload 7, 2) := by decide +kernel
theorem d_M_waysAlong_251 : decode c_M_waysAlong 251 = .ok (.iload 10, 2) := by decide +kernel
theorem d_M_waysAlong_253 : decode c_M_waysAlong 253 = .ok (.iadd, 1) := by decide +kernel
theorem d_M_waysAlong_254 : decode c_M_waysAlong 254 = .ok (.laload, 1) := by decide +kernel
theorem d_M_waysAlong_255 : decode c_M_waysAlong 255 = .ok (.lmul, 1) := by decide +kernel
theorem d_M_waysAlong_256 : decode c_M_waysAlong 256 = .ok (.invokestatic 128, 3) := by decide +kernel
theorem d_M_waysAlong_259 : decode c_M_waysAlong 259 = .ok (.ladd, 1) := by decide +kernel
theorem d_M_waysAlong_260 : decode c_M_waysAlong 260 = .ok (.invokestatic 128, 3) := by decide +kernel
theorem d_M_waysAlong_263 : decode c_M_waysAlong 263 = .ok (.lastore, 1) := by decide +kernel
theorem d_M_waysAlong_264 : decode c_M_waysAlong 264 = .ok (.iinc 10 1, 3) := by decide +kernel
theorem d_M_waysAlong_267 : decode c_M_waysAlong 267 = .ok (.goto (-61), 3) := by decide +kernel
theorem d_M_waysAlong_270 : decode c_M_waysAlong 270 = .ok (.iinc 6 1, 3) := by decide +kernel
theorem d_M_waysAlong_273 : decode c_M_waysAlong 273 = .ok (.goto (-188), 3) := by decide +kernel
theorem d_M_waysAlong_276 : decode c_M_waysAlong 276 = .ok (.iconst 0, 1) := by decide +kernel
theorem d_M_waysAlong_277 : decode c_M_waysAlong 277 = .ok (.istore 6, 2) := by decide +kernel
theorem d_M_waysAlong_279 : decode c_M_waysAlong 279 = .ok (.iload 6, 2) := by decide +kernel
theorem d_M_waysAlong_281 : decode c_M_waysAlong 281 = .ok (.bipush 60, 2) := by decide +kernel
theorem d_M_waysAlong_283 : decode c_M_waysAlong 283 = .ok (.if_icmp .gt 23, 3) := by decide +kernel
theorem d_M_waysAlong_286 : decode c_M_waysAlong 286 = .ok (.aload_n 0, 1) := by decide +kernel
theorem d_M_waysAlong_287 : decode c_M_waysAlong 287 = .ok (.getfield 46, 3) := by decide +kernel
theorem d_M_waysAlong_290 : decode c_M_waysAlong 290 = .ok (.iload 6, 2) := by decide +kernel
theorem d_M_waysAlong_292 : decode c_M_waysAlong 292 = .ok (.aload_n 0, 1) := by decide +kernel
theorem d_M_waysAlong_293 : decode c_M_waysAlong 293 = .ok (.getfield 49, 3) := by decide +kernel
theorem d_M_waysAlong_296 : decode c_M_waysAlong 296 = .ok (.iload 6, 2) := by decide +kernel
theorem d_M_waysAlong_298 : decode c_M_waysAlong 298 = .ok (.laload, 1) := by decide +kernel
theorem d_M_waysAlong_299 : decode c_M_waysAlong 299 = .ok (.lastore, 1) := by decide +kernel
theorem d_M_waysAlong_300 : decode c_M_waysAlong 300 = .ok (.iinc 6 1, 3) := by decide +kernel
theorem d_M_waysAlong_303 : decode c_M_waysAlong 303 = .ok (.goto (-24), 3) := by decide +kernel
theorem d_M_waysAlong_306 : decode c_M_waysAlong 306 = .ok (.iinc 4 1, 3) := by decide +kernel
theorem d_M_waysAlong_309 : decode c_M_waysAlong 309 = .ok (.goto (-272), 3) := by decide +kernel
theorem d_M_waysAlong_312 : decode c_M_waysAlong 312 = .ok (.return_, 1) := by decide +kernel
theorem d_M_before_0 : decode c_M_before 0 = .ok (.lconst 0, 1) := by decide +kernel
theorem d_M_before_1 : decode c_M_before 1 = .ok (.lstore 4, 2) := by decide +kernel
theorem d_M_before_3 : decode c_M_before 3 = .ok (.iconst 0, 1) := by decide +kernel
theorem d_M_before_4 : decode c_M_before 4 = .ok (.istore 6, 2) := by decide +kernel
theorem d_M_before_6 : decode c_M_before 6 = .ok (.iload 6, 2) := by decide +kernel
theorem d_M_before_8 : decode c_M_before 8 = .ok (.aload_n 0, 1) := by decide +kernel
theorem d_M_before_9 : decode c_M_before 9 = .ok (.getfield 105, 3) := by decide +kernel
theorem d_M_before_12 : decode c_M_before 12 = .ok (.if_icmp .gt 104, 3) := by decide +kernel
theorem d_M_before_15 : decode c_M_before 15 = .ok (.iload_n 3, 1) := by decide +kernel
theorem d_M_before_16 : decode c_M_before 16 = .ok (.invokestatic 85, 3) := by decide +kernel
theorem d_M_before_19 : decode c_M_before 19 = .ok (.ifCond .eq 32, 3) := by decide +kernel
theorem d_M_before_22 : decode c_M_before 22 = .ok (.aload_n 0, 1) := by decide +kernel
theorem d_M_before_23 : decode c_M_before 23 = .ok (.getfield 32, 3) := by decide +kernel
theorem d_M_before_26 : decode c_M_before 26 = .ok (.bipush 61, 2) := by decide +kernel
theorem d_M_before_28 : decode c_M_before 28 = .ok (.iconst (-1), 1) := by decide +kernel
theorem d_M_before_29 : decode c_M_before 29 = .ok (.iload_n 3, 1) := by decide +kernel
theorem d_M_before_30 : decode c_M_before 30 = .ok (.isub, 1) := by decide +kernel
theorem d_M_before_31 : decode c_M_before 31 = .ok (.imul, 1) := by decide +kernel
theorem d_M_before_32 : decode c_M_before 32 = .ok (.iload 6, 2) := by decide +kernel
theorem d_M_before_34 : decode c_M_before 34 = .ok (.iadd, 1) := by decide +kernel
theorem d_M_before_35 : decode c_M_before 35 = .ok (.laload, 1) := by decide +kernel
theorem d_M_before_36 : decode c_M_before 36 = .ok (.lload_n 1, 1) := by decide +kernel
theorem d_M_before_37 : decode c_M_before 37 = .ok (.land, 1) := by decide +kernel
theorem d_M_before_38 : decode c_M_before 38 = .ok (.lconst 0, 1) := by decide +kernel
theorem d_M_before_39 : decode c_M_before 39 = .ok (.lcmp, 1) := by decide +kernel
theorem d_M_before_40 : decode c_M_before 40 = .ok (.ifCond .eq 7, 3) := by decide +kernel
theorem d_M_before_43 : decode c_M_before 43 = .ok (.iconst 1, 1) := by decide +kernel
theorem d_M_before_44 : decode c_M_before 44 = .ok (.goto 45, 3) := by decide +kernel
theorem d_M_before_47 : decode c_M_before 47 = .ok (.iconst 0, 1) := by decide +kernel
theorem d_M_before_48 : decode c_M_before 48 = .ok (.goto 41, 3) := by decide +kernel
theorem d_M_before_51 : decode c_M_before 51 = .ok (.iload 6, 2) := by decide +kernel
theorem d_M_before_53 : decode c_M_before 53 = .ok (.aload_n 0, 1) := by decide +kernel
theorem d_M_before_54 : decode c_M_before 54 = .ok (.getfield 105, 3) := by decide +kernel
theorem d_M_before_57 : decode c_M_before 57 = .ok (.if_icmp .ge 31, 3) := by decide +kernel
theorem d_M_before_60 : decode c_M_before 60 = .ok (.aload_n 0, 1) := by decide +kernel
theorem d_M_before_61 : decode c_M_before 61 = .ok (.getfield 29, 3) := by decide +kernel
theorem d_M_before_64 : decode c_M_before 64 = .ok (.iload 6, 2) := by decide +kernel
theorem d_M_before_66 : decode c_M_before 66 = .ok (.iaload, 1) := by decide +kernel
theorem d_M_before_67 : decode c_M_before 67 = .ok (.iload_n 3, 1) := by decide +kernel
theorem d_M_before_68 : decode c_M_before 68 = .ok (.if_icmp .ne 20, 3) := by decide +kernel
theorem d_M_before_71 : decode c_M_before 71 = .ok (.lload_n 1, 1) := by decide +kernel
theorem d_M_before_72 : decode c_M_before 72 = .ok (.iload 6, 2) := by decide +kernel
theorem d_M_before_74 : decode c_M_before 74 = .ok (.iconst 1, 1) := by decide +kernel
theorem d_M_before_75 : decode c_M_before 75 = .ok (.iadd, 1) := by decide +kernel
theorem d_M_before_76 : decode c_M_before 76 = .ok (.lshr, 1) := by decide +kernel
theorem d_M_before_77 : decode c_M_before 77 = .ok (.lconst 1, 1) := by decide +kernel
theorem d_M_before_78 : decode c_M_before 78 = .ok (.land, 1) := by decide +kernel
theorem d_M_before_79 : decode c_M_before 79 = .ok (.lconst 1, 1) := by decide +kernel
theorem d_M_before_80 : decode c_M_before 80 = .ok (.lcmp, 1) := by decide +kernel
theorem d_M_before_81 : decode c_M_before 81 = .ok (.ifCond .ne 7, 3) := by decide +kernel
theorem d_M_before_84 : decode c_M_before 84 = .ok (.iconst 1, 1) := by decide +kernel
theorem d_M_before_85 : decode c_M_before 85 = .ok (.goto 4, 3) := by decide +kernel
theorem d_M_before_88 : decode c_M_before 88 = .ok (.iconst 0, 1) := by decide +kernel
theorem d_M_before_89 : decode c_M_before 89 = .ok (.istore 7, 2) := by decide +kernel
theorem d_M_before_91 : decode c_M_before 91 = .ok (.iload 7, 2) := by decide +kernel
theorem d_M_before_93 : decode c_M_before 93 = .ok (.ifCond .eq 13, 3) := by decide +kernel
theorem d_M_before_96 : decode c_M_before 96 = .ok (.lload 4, 2) := by decide +kernel
theorem d_M_before_98 : decode c_M_before 98 = .ok (.lconst 1, 1) := by decide +kernel
theorem d_M_before_99 : decode c_M_before 99 = .ok (.iload 6, 2) := by decide +kernel
theorem d_M_before_101 : decode c_M_before 101 = .ok (.lshl, 1) := by decide +kernel
theorem d_M_before_102 : decode c_M_before 102 = .ok (.lor, 1) := by decide +kernel
theorem d_M_before_103 : decode c_M_before 103 = .ok (.goto 5, 3) := by decide +kernel
theorem d_M_before_106 : decode c_M_before 106 = .ok (.lload 4, 2) := by decide +kernel
theorem d_M_before_108 : decode c_M_before 108 = .ok (.lstore 4, 2) := by decide +kernel
theorem d_M_before_110 : decode c_M_before 110 = .ok (.iinc 6 1, 3) := by decide +kernel
theorem d_M_before_113 : decode c_M_before 113 = .ok (.goto (-107), 3) := by decide +kernel
theorem d_M_before_116 : decode c_M_before 116 = .ok (.lload 4, 2) := by decide +kernel
theorem d_M_before_118 : decode c_M_before 118 = .ok (.lreturn, 1) := by decide +kernel
theorem d_M_reachOf_0 : decode c_M_reachOf 0 = .ok (.aload_n 0, 1) := by decide +kernel
theorem d_M_reachOf_1 : decode c_M_reachOf 1 = .ok (.iload_n 3, 1) := by decide +kernel
theorem d_M_reachOf_2 : decode c_M_reachOf 2 = .ok (.putfield 108, 3) := by decide +kernel
theorem d_M_reachOf_5 : decode c_M_reachOf 5 = .ok (.aload_n 0, 1) := by decide +kernel
theorem d_M_reachOf_6 : decode c_M_reachOf 6 = .ok (.lconst 1, 1) := by decide +kernel
theorem d_M_reachOf_7 : decode c_M_reachOf 7 = .ok (.iload_n 3, 1) := by decide +kernel
theorem d_M_reachOf_8 : decode c_M_reachOf 8 = .ok (.lshl, 1) := by decide +kernel
theorem d_M_reachOf_9 : decode c_M_reachOf 9 = .ok (.iload_n 1, 1) := by decide +kernel
theorem d_M_reachOf_10 : decode c_M_reachOf 10 = .ok (.iload_n 2, 1) := by decide +kernel
theorem d_M_reachOf_11 : decode c_M_reachOf 11 = .ok (.invokevirtual 118, 3) := by decide +kernel
theorem d_M_reachOf_14 : decode c_M_reachOf 14 = .ok (.lstore 4, 2) := by decide +kernel
theorem d_M_reachOf_16 : decode c_M_reachOf 16 = .ok (.aload_n 0, 1) := by decide +kernel
theorem d_M_reachOf_17 : decode c_M_reachOf 17 = .ok (.getfield 132, 3) := by decide +kernel
theorem d_M_reachOf_20 : decode c_M_reachOf 20 = .ok (.iconst 1, 1) := by decide +kernel
theorem d_M_reachOf_21 : decode c_M_reachOf 21 = .ok (.isub, 1) := by decide +kernel
theorem d_M_reachOf_22 : decode c_M_reachOf 22 = .ok (.istore 6, 2) := by decide +kernel
theorem d_M_reachOf_24 : decode c_M_reachOf 24 = .ok (.iload 6, 2) := by decide +kernel
theorem d_M_reachOf_26 : decode c_M_reachOf 26 = .ok (.ifCond .lt 48, 3) := by decide +kernel
theorem d_M_reachOf_29 : decode c_M_reachOf 29 = .ok (.lload 4, 2) := by decide +kernel
theorem d_M_reachOf_31 : decode c_M_reachOf 31 = .ok (.lconst 0, 1) := by decide +kernel
theorem d_M_reachOf_32 : decode c_M_reachOf 32 = .ok (.lcmp, 1) := by decide +kernel
theorem d_M_reachOf_33 : decode c_M_reachOf 33 = .ok (.ifCond .eq 41, 3) := by decide +kernel
theorem d_M_reachOf_36 : decode c_M_reachOf 36 = .ok (.aload_n 0, 1) := by decide +kernel
theorem d_M_reachOf_37 : decode c_M_reachOf 37 = .ok (.getfield 64, 3) := by decide +kernel
theorem d_M_reachOf_40 : decode c_M_reachOf 40 = .ok (.iload 6, 2) := by decide +kernel
theorem d_M_reachOf_42 : decode c_M_reachOf 42 = .ok (.iaload, 1) := by decide +kernel
theorem d_M_reachOf_43 : decode c_M_reachOf 43 = .ok (.bipush (-100), 2) := by decide +kernel
theorem d_M_reachOf_45 : decode c_M_reachOf 45 = .ok (.if_icmp .gt 8, 3) := by decide +kernel
theorem d_M_reachOf_48 : decode c_M_reachOf 48 = .ok (.lload 4, 2) := by decide +kernel
theorem d_M_reachOf_50 : decode c_M_reachOf 50 = .ok (.goto 16, 3) := by decide +kernel
theorem d_M_reachOf_53 : decode c_M_reachOf 53 = .ok (.aload_n 0, 1) := by decide +kernel
theorem d_M_reachOf_54 : decode c_M_reachOf 54 = .ok (.lload 4, 2) := by decide +kernel
theorem d_M_reachOf_56 : decode c_M_reachOf 56 = .ok (.aload_n 0, 1) := by decide +kernel
theorem d_M_reachOf_57 : decode c_M_reachOf 57 = .ok (.getfield 64, 3) := by decide +kernel
theorem d_M_reachOf_60 : decode c_M_reachOf 60 = .ok (.iload 6, 2) := by decide +kernel
theorem d_M_reachOf_62 : decode c_M_reachOf 62 = .ok (.iaload, 1) := by decide +kernel
theorem d_M_reachOf_63 : decode c_M_reachOf 63 = .ok (.invokevirtual 111, 3) := by decide +kernel
theorem d_M_reachOf_66 : decode c_M_reachOf 66 = .ok (.lstore 4, 2) := by decide +kernel
theorem d_M_reachOf_68 : decode c_M_reachOf 68 = .ok (.iinc 6 (-1), 3) := by decide +kernel
theorem d_M_reachOf_71 : decode c_M_reachOf 71 = .ok (.goto (-47), 3) := by decide +kernel
theorem d_M_reachOf_74 : decode c_M_reachOf 74 = .ok (.iconst 0, 1) := by decide +kernel
theorem d_M_reachOf_75 : decode c_M_reachOf 75 = .ok (.istore 6, 2) := by decide +kernel
theorem d_M_reachOf_77 : decode c_M_reachOf 77 = .ok (.iload 6, 2) := by decide +kernel
theorem d_M_reachOf_79 : decode c_M_reachOf 79 = .ok (.aload_n 0, 1) := by decide +kernel
theorem d_M_reachOf_80 : decode c_M_reachOf 80 = .ok (.getfield 105, 3) := by decide +kernel
theorem d_M_reachOf_83 : decode c_M_reachOf 83 = .ok (.if_icmp .gt 43, 3) := by decide +kernel
theorem d_M_reachOf_86 : decode c_M_reachOf 86 = .ok (.aload_n 0, 1) := by decide +kernel
theorem d_M_reachOf_87 : decode c_M_reachOf 87 = .ok (.lload 4, 2) := by decide +kernel
theorem d_M_reachOf_89 : decode c_M_reachOf 89 = .ok (.iload 6, 2) := by decide +kernel
theorem d_M_reachOf_91 : decode c_M_reachOf 91 = .ok (.lshr, 1) := by decide +kernel
theorem d_M_reachOf_92 : decode c_M_reachOf 92 = .ok (.lconst 1, 1) := by decide +kernel
theorem d_M_reachOf_93 : decode c_M_reachOf 93 = .ok (.land, 1) := by decide +kernel
theorem d_M_reachOf_94 : decode c_M_reachOf 94 = .ok (.lconst 1, 1) := by decide +kernel
theorem d_M_reachOf_95 : decode c_M_reachOf 95 = .ok (.lcmp, 1) := by decide +kernel
theorem d_M_reachOf_96 : decode c_M_reachOf 96 = .ok (.ifCond .ne 17, 3) := by decide +kernel
theorem d_M_reachOf_99 : decode c_M_reachOf 99 = .ok (.iload 6, 2) := by decide +kernel
theorem d_M_reachOf_101 : decode c_M_reachOf 101 = .ok (.aload_n 0, 1) := by decide +kernel
theorem d_M_reachOf_102 : decode c_M_reachOf 102 = .ok (.getfield 108, 3) := by decide +kernel
theorem d_M_reachOf_105 : decode c_M_reachOf 105 = .ok (.if_icmp .le 8, 3) := by decide +kernel
theorem d_M_reachOf_108 : decode c_M_reachOf 108 = .ok (.iload 6, 2) := by decide +kernel
theorem d_M_reachOf_110 : decode c_M_reachOf 110 = .ok (.goto 7, 3) := by decide +kernel
theorem d_M_reachOf_113 : decode c_M_reachOf 113 = .ok (.aload_n 0, 1) := by decide +kernel
theorem d_M_reachOf_114 : decode c_M_reachOf 114 = .ok (.getfield 108, 3) := by decide +kernel
theorem d_M_reachOf_117 : decode c_M_reachOf 117 = .ok (.putfield 108, 3) := by decide +kernel
theorem d_M_reachOf_120 : decode c_M_reachOf 120 = .ok (.iinc 6 1, 3) := by decide +kernel
theorem d_M_reachOf_123 : decode c_M_reachOf 123 = .ok (.goto (-46), 3) := by decide +kernel
theorem d_M_reachOf_126 : decode c_M_reachOf 126 = .ok (.lload 4, 2) := by decide +kernel
theorem d_M_reachOf_128 : decode c_M_reachOf 128 = .ok (.aload_n 0, 1) := by decide +kernel
theorem d_M_reachOf_129 : decode c_M_reachOf 129 = .ok (.getfield 105, 3) := by decide +kernel
theorem d_M_reachOf_132 : decode c_M_reachOf 132 = .ok (.lshr, 1) := by decide +kernel
theorem d_M_reachOf_133 : decode c_M_reachOf 133 = .ok (.lconst 1, 1) := by decide +kernel
theorem d_M_reachOf_134 : decode c_M_reachOf 134 = .ok (.land, 1) := by decide +kernel
theorem d_M_reachOf_135 : decode c_M_reachOf 135 = .ok (.lconst 1, 1) := by decide +kernel
theorem d_M_reachOf_136 : decode c_M_reachOf 136 = .ok (.lcmp, 1) := by decide +kernel
theorem d_M_reachOf_137 : decode c_M_reachOf 137 = .ok (.ifCond .ne 7, 3) := by decide +kernel
theorem d_M_reachOf_140 : decode c_M_reachOf 140 = .ok (.iconst 1, 1) := by decide +kernel
theorem d_M_reachOf_141 : decode c_M_reachOf 141 = .ok (.goto 4, 3) := by decide +kernel
theorem d_M_reachOf_144 : decode c_M_reachOf 144 = .ok (.iconst 0, 1) := by decide +kernel
theorem d_M_reachOf_145 : decode c_M_reachOf 145 = .ok (.istore 6, 2) := by decide +kernel
theorem d_M_reachOf_147 : decode c_M_reachOf 147 = .ok (.iload 6, 2) := by decide +kernel
theorem d_M_reachOf_149 : decode c_M_reachOf 149 = .ok (.ifCond .eq 12, 3) := by decide +kernel
theorem d_M_reachOf_152 : decode c_M_reachOf 152 = .ok (.aload_n 0, 1) := by decide +kernel
theorem d_M_reachOf_153 : decode c_M_reachOf 153 = .ok (.getfield 105, 3) := by decide +kernel
theorem d_M_reachOf_156 : decode c_M_reachOf 156 = .ok (.iconst 1, 1) := by decide +kernel
theorem d_M_reachOf_157 : decode c_M_reachOf 157 = .ok (.iadd, 1) := by decide +kernel
theorem d_M_reachOf_158 : decode c_M_reachOf 158 = .ok (.goto 7, 3) := by decide +kernel
theorem d_M_reachOf_161 : decode c_M_reachOf 161 = .ok (.aload_n 0, 1) := by decide +kernel
theorem d_M_reachOf_162 : decode c_M_reachOf 162 = .ok (.getfield 108, 3) := by decide +kernel
theorem d_M_reachOf_165 : decode c_M_reachOf 165 = .ok (.iload_n 3, 1) := by decide +kernel
theorem d_M_reachOf_166 : decode c_M_reachOf 166 = .ok (.isub, 1) := by decide +kernel
theorem d_M_reachOf_167 : decode c_M_reachOf 167 = .ok (.ireturn, 1) := by decide +kernel
theorem d_M_push_0 : decode c_M_push 0 = .ok (.aload_n 0, 1) := by decide +kernel
theorem d_M_push_1 : decode c_M_push 1 = .ok (.getfield 64, 3) := by decide +kernel
theorem d_M_push_4 : decode c_M_push 4 = .ok (.aload_n 0, 1) := by decide +kernel
theorem d_M_push_5 : decode c_M_push 5 = .ok (.getfield 132, 3) := by decide +kernel
theorem d_M_push_8 : decode c_M_push 8 = .ok (.iload_n 1, 1) := by decide +kernel
theorem d_M_push_9 : decode c_M_push 9 = .ok (.iastore, 1) := by decide +kernel
theorem d_M_push_10 : decode c_M_push 10 = .ok (.aload_n 0, 1) := by decide +kernel
theorem d_M_push_11 : decode c_M_push 11 = .ok (.getfield 67, 3) := by decide +kernel
theorem d_M_push_14 : decode c_M_push 14 = .ok (.aload_n 0, 1) := by decide +kernel
theorem d_M_push_15 : decode c_M_push 15 = .ok (.getfield 132, 3) := by decide +kernel
theorem d_M_push_18 : decode c_M_push 18 = .ok (.iload_n 2, 1) := by decide +kernel
theorem d_M_push_19 : decode c_M_push 19 = .ok (.iastore, 1) := by decide +kernel
theorem d_M_push_20 : decode c_M_push 20 = .ok (.aload_n 0, 1) := by decide +kernel
theorem d_M_push_21 : decode c_M_push 21 = .ok (.getfield 70, 3) := by decide +kernel
theorem d_M_push_24 : decode c_M_push 24 = .ok (.aload_n 0, 1) := by decide +kernel
theorem d_M_push_25 : decode c_M_push 25 = .ok (.getfield 132, 3) := by decide +kernel
theorem d_M_push_28 : decode c_M_push 28 = .ok (.lload_n 3, 1) := by decide +kernel
theorem d_M_push_29 : decode c_M_push 29 = .ok (.lastore, 1) := by decide +kernel
theorem d_M_push_30 : decode c_M_push 30 = .ok (.aload_n 0, 1) := by decide +kernel
theorem d_M_push_31 : decode c_M_push 31 = .ok (.dup, 1) := by decide +kernel
theorem d_M_push_32 : decode c_M_push 32 = .ok (.getfield 132, 3) := by decide +kernel
theorem d_M_push_35 : decode c_M_push 35 = .ok (.iconst 1, 1) := by decide +kernel
theorem d_M_push_36 : decode c_M_push 36 = .ok (.iadd, 1) := by decide +kernel
theorem d_M_push_37 : decode c_M_push 37 = .ok (.putfield 132, 3) := by decide +kernel
theorem d_M_push_40 : decode c_M_push 40 = .ok (.return_, 1) := by decide +kernel
theorem d_M_makeNode_0 : decode c_M_makeNode 0 = .ok (.aload_n 0, 1) := by decide +kernel
theorem d_M_makeNode_1 : decode c_M_makeNode 1 = .ok (.getfield 135, 3) := by decide +kernel
theorem d_M_makeNode_4 : decode c_M_makeNode 4 = .ok (.istore 4, 2) := by decide +kernel
theorem d_M_makeNode_6 : decode c_M_makeNode 6 = .ok (.aload_n 0, 1) := by decide +kernel
theorem d_M_makeNode_7 : decode c_M_makeNode 7 = .ok (.dup, 1) := by decide +kernel
theorem d_M_makeNode_8 : decode c_M_makeNode 8 = .ok (.getfield 135, 3) := by decide +kernel
theorem d_M_makeNode_11 : decode c_M_makeNode 11 = .ok (.iconst 1, 1) := by decide +kernel
theorem d_M_makeNode_12 : decode c_M_makeNode 12 = .ok (.iadd, 1) := by decide +kernel
theorem d_M_makeNode_13 : decode c_M_makeNode 13 = .ok (.putfield 135, 3) := by decide +kernel
theorem d_M_makeNode_16 : decode c_M_makeNode 16 = .ok (.aload_n 0, 1) := by decide +kernel
theorem d_M_makeNode_17 : decode c_M_makeNode 17 = .ok (.getfield 132, 3) := by decide +kernel
theorem d_M_makeNode_20 : decode c_M_makeNode 20 = .ok (.ifCond .le 17, 3) := by decide +kernel
theorem d_M_makeNode_23 : decode c_M_makeNode 23 = .ok (.aload_n 0, 1) := by decide +kernel
theorem d_M_makeNode_24 : decode c_M_makeNode 24 = .ok (.getfield 70, 3) := by decide +kernel
theorem d_M_makeNode_27 : decode c_M_makeNode 27 = .ok (.aload_n 0, 1) := by decide +kernel
theorem d_M_makeNode_28 : decode c_M_makeNode 28 = .ok (.getfield 132, 3) := by decide +kernel
theorem d_M_makeNode_31 : decode c_M_makeNode 31 = .ok (.iconst 1, 1) := by decide +kernel
theorem d_M_makeNode_32 : decode c_M_makeNode 32 = .ok (.isub, 1) := by decide +kernel
theorem d_M_makeNode_33 : decode c_M_makeNode 33 = .ok (.laload, 1) := by decide +kernel
theorem d_M_makeNode_34 : decode c_M_makeNode 34 = .ok (.goto 9, 3) := by decide +kernel
theorem d_M_makeNode_37 : decode c_M_makeNode 37 = .ok (.lconst 1, 1) := by decide +kernel
theorem d_M_makeNode_38 : decode c_M_makeNode 38 = .ok (.aload_n 0, 1) := by decide +kernel
theorem d_M_makeNode_39 : decode c_M_makeNode 39 = .ok (.getfield 105, 3) := by decide +kernel
theorem d_M_makeNode_42 : decode c_M_makeNode 42 = .ok (.lshl, 1) := by decide +kernel
theorem d_M_makeNode_43 : decode c_M_makeNode 43 = .ok (.lstore 5, 2) := by decide +kernel
theorem d_M_makeNode_45 : decode c_M_makeNode 45 = .ok (.iconst 0, 1) := by decide +kernel
theorem d_M_makeNode_46 : decode c_M_makeNode 46 = .ok (.istore 7, 2) := by decide +kernel
theorem d_M_makeNode_48 : decode c_M_makeNode 48 = .ok (.aload_n 0, 1) := by decide +kernel
theorem d_M_makeNode_49 : decode c_M_makeNode 49 = .ok (.iload_n 3, 1) := by decide +kernel
theorem d_M_makeNode_50 : decode c_M_makeNode 50 = .ok (.putfield 108, 3) := by decide +kernel
theorem d_M_makeNode_53 : decode c_M_makeNode 53 = .ok (.aload_n 0, 1) := by decide +kernel
theorem d_M_makeNode_54 : decode c_M_makeNode 54 = .ok (.lconst 1, 1) := by decide +kernel
theorem d_M_makeNode_55 : decode c_M_makeNode 55 = .ok (.iload_n 3, 1) := by decide +kernel
theorem d_M_makeNode_56 : decode c_M_makeNode 56 = .ok (.lshl, 1) := by decide +kernel
theorem d_M_makeNode_57 : decode c_M_makeNode 57 = .ok (.iload_n 1, 1) := by decide +kernel
theorem d_M_makeNode_58 : decode c_M_makeNode 58 = .ok (.iload 7, 2) := by decide +kernel
theorem d_M_makeNode_60 : decode c_M_makeNode 60 = .ok (.invokevirtual 118, 3) := by decide +kernel
theorem d_M_makeNode_63 : decode c_M_makeNode 63 = .ok (.lload 5, 2) := by decide +kernel
theorem d_M_makeNode_65 : decode c_M_makeNode 65 = .ok (.land, 1) := by decide +kernel
theorem d_M_makeNode_66 : decode c_M_makeNode 66 = .ok (.lconst 0, 1) := by decide +kernel
theorem d_M_makeNode_67 : decode c_M_makeNode 67 = .ok (.lcmp, 1) := by decide +kernel
theorem d_M_makeNode_68 : decode c_M_makeNode 68 = .ok (.ifCond .ne 9, 3) := by decide +kernel
theorem d_M_makeNode_71 : decode c_M_makeNode 71 = .ok (.iinc 7 1, 3) := by decide +kernel
theorem d_M_makeNode_74 : decode c_M_makeNode 74 = .ok (.goto (-21), 3) := by decide +kernel
theorem d_M_makeNode_77 : decode c_M_makeNode 77 = .ok (.iconst 0, 1) := by decide +kernel
theorem d_M_makeNode_78 : decode c_M_makeNode 78 = .ok (.istore 8, 2) := by decide +kernel
theorem d_M_makeNode_80 : decode c_M_makeNode 80 = .ok (.iconst 0, 1) := by decide +kernel
theorem d_M_makeNode_81 : decode c_M_makeNode 81 = .ok (.istore 9, 2) := by decide +kernel
theorem d_M_makeNode_83 : decode c_M_makeNode 83 = .ok (.iload 9, 2) := by decide +kernel
theorem d_M_makeNode_85 : decode c_M_makeNode 85 = .ok (.aload_n 0, 1) := by decide +kernel
theorem d_M_makeNode_86 : decode c_M_makeNode 86 = .ok (.getfield 7, 3) := by decide +kernel
theorem d_M_makeNode_89 : decode c_M_makeNode 89 = .ok (.iload_n 1, 1) := by decide +kernel
theorem d_M_makeNode_90 : decode c_M_makeNode 90 = .ok (.iaload, 1) := by decide +kernel
theorem d_M_makeNode_91 : decode c_M_makeNode 91 = .ok (.if_icmp .ge 48, 3) := by decide +kernel
theorem d_M_makeNode_94 : decode c_M_makeNode 94 = .ok (.iload 9, 2) := by decide +kernel
theorem d_M_makeNode_96 : decode c_M_makeNode 96 = .ok (.iload 7, 2) := by decide +kernel
theorem d_M_makeNode_98 : decode c_M_makeNode 98 = .ok (.if_icmp .ne 7, 3) := by decide +kernel
theorem d_M_makeNode_101 : decode c_M_makeNode 101 = .ok (.iconst 0, 1) := by decide +kernel
theorem d_M_makeNode_102 : decode c_M_makeNode 102 = .ok (.goto 13, 3) := by decide +kernel
theorem d_M_makeNode_105 : decode c_M_makeNode 105 = .ok (.aload_n 0, 1) := by decide +kernel
theorem d_M_makeNode_106 : decode c_M_makeNode 106 = .ok (.iload_n 1, 1) := by decide +kernel
theorem d_M_makeNode_107 : decode c_M_makeNode 107 = .ok (.iload 9, 2) := by decide +kernel
theorem d_M_makeNode_109 : decode c_M_makeNode 109 = .ok (.iload_n 3, 1) := by decide +kernel
theorem d_M_makeNode_110 : decode c_M_makeNode 110 = .ok (.invokevirtual 138, 3) := by decide +kernel
theorem d_M_makeNode_113 : decode c_M_makeNode 113 = .ok (.iconst 1, 1) := by decide +kernel
theorem d_M_makeNode_114 : decode c_M_makeNode 114 = .ok (.iadd, 1) := by decide +kernel
theorem d_M_makeNode_115 : decode c_M_makeNode 115 = .ok (.istore 10, 2) := by decide +kernel
theorem d_M_makeNode_117 : decode c_M_makeNode 117 = .ok (.iload 10, 2) := by decide +kernel
theorem d_M_makeNode_119 : decode c_M_makeNode 119 = .ok (.iload 8, 2) := by decide +kernel
theorem d_M_makeNode_121 : decode c_M_makeNode 121 = .ok (.if_icmp .le 8, 3) := by decide +kernel
theorem d_M_makeNode_124 : decode c_M_makeNode 124 = .ok (.iload 10, 2) := by decide +kernel
theorem d_M_makeNode_126 : decode c_M_makeNode 126 = .ok (.goto 5, 3) := by decide +kernel
theorem d_M_makeNode_129 : decode c_M_makeNode 129 = .ok (.iload 8, 2) := by decide +kernel
theorem d_M_makeNode_131 : decode c_M_makeNode 131 = .ok (.istore 8, 2) := by decide +kernel
theorem d_M_makeNode_133 : decode c_M_makeNode 133 = .ok (.iinc 9 1, 3) := by decide +kernel
theorem d_M_makeNode_136 : decode c_M_makeNode 136 = .ok (.goto (-53), 3) := by decide +kernel
theorem d_M_makeNode_139 : decode c_M_makeNode 139 = .ok (.aload_n 0, 1) := by decide +kernel
theorem d_M_makeNode_140 : decode c_M_makeNode 140 = .ok (.getfield 105, 3) := by decide +kernel
theorem d_M_makeNode_143 : decode c_M_makeNode 143 = .ok (.iload_n 3, 1) := by decide +kernel
theorem d_M_makeNode_144 : decode c_M_makeNode 144 = .ok (.isub, 1) := by decide +kernel
theorem d_M_makeNode_145 : decode c_M_makeNode 145 = .ok (.iconst 1, 1) := by decide +kernel
theorem d_M_makeNode_146 : decode c_M_makeNode 146 = .ok (.iadd, 1) := by decide +kernel
theorem d_M_makeNode_147 : decode c_M_makeNode 147 = .ok (.istore 9, 2) := by decide +kernel
theorem d_M_makeNode_149 : decode c_M_makeNode 149 = .ok (.bipush 7, 2) := by decide +kernel
theorem d_M_makeNode_151 : decode c_M_makeNode 151 = .ok (.iload 4, 2) := by decide +kernel
theorem d_M_makeNode_153 : decode c_M_makeNode 153 = .ok (.imul, 1) := by decide +kernel
theorem d_M_makeNode_154 : decode c_M_makeNode 154 = .ok (.istore 10, 2) := by decide +kernel
theorem d_M_makeNode_156 : decode c_M_makeNode 156 = .ok (.aload_n 0, 1) := by decide +kernel
theorem d_M_makeNode_157 : decode c_M_makeNode 157 = .ok (.getfield 61, 3) := by decide +kernel
theorem d_M_makeNode_160 : decode c_M_makeNode 160 = .ok (.iload 10, 2) := by decide +kernel
theorem d_M_makeNode_162 : decode c_M_makeNode 162 = .ok (.iload_n 1, 1) := by decide +kernel
theorem d_M_makeNode_163 : decode c_M_makeNode 163 = .ok (.iastore, 1) := by decide +kernel
theorem d_M_makeNode_164 : decode c_M_makeNode 164 = .ok (.aload_n 0, 1) := by decide +kernel
theorem d_M_makeNode_165 : decode c_M_makeNode 165 = .ok (.getfield 61, 3) := by decide +kernel
theorem d_M_makeNode_168 : decode c_M_makeNode 168 = .ok (.iload 10, 2) := by decide +kernel
theorem d_M_makeNode_170 : decode c_M_makeNode 170 = .ok (.iconst 1, 1) := by decide +kernel
theorem d_M_makeNode_171 : decode c_M_makeNode 171 = .ok (.iadd, 1) := by decide +kernel
theorem d_M_makeNode_172 : decode c_M_makeNode 172 = .ok (.iload 7, 2) := by decide +kernel
theorem d_M_makeNode_174 : decode c_M_makeNode 174 = .ok (.iastore, 1) := by decide +kernel
theorem d_M_makeNode_175 : decode c_M_makeNode 175 = .ok (.aload_n 0, 1) := by decide +kernel
theorem d_M_makeNode_176 : decode c_M_makeNode 176 = .ok (.getfield 61, 3) := by decide +kernel
theorem d_M_makeNode_179 : decode c_M_makeNode 179 = .ok (.iload 10, 2) := by decide +kernel
theorem d_M_makeNode_181 : decode c_M_makeNode 181 = .ok (.iconst 2, 1) := by decide +kernel
theorem d_M_makeNode_182 : decode c_M_makeNode 182 = .ok (.iadd, 1) := by decide +kernel
theorem d_M_makeNode_183 : decode c_M_makeNode 183 = .ok (.iload_n 3, 1) := by decide +kernel
theorem d_M_makeNode_184 : decode c_M_makeNode 184 = .ok (.iastore, 1) := by decide +kernel
theorem d_M_makeNode_185 : decode c_M_makeNode 185 = .ok (.aload_n 0, 1) := by decide +kernel
theorem d_M_makeNode_186 : decode c_M_makeNode 186 = .ok (.getfield 61, 3) := by decide +kernel
theorem d_M_makeNode_189 : decode c_M_makeNode 189 = .ok (.iload 10, 2) := by decide +kernel
theorem d_M_makeNode_191 : decode c_M_makeNode 191 = .ok (.iconst 3, 1) := by decide +kernel
theorem d_M_makeNode_192 : decode c_M_makeNode 192 = .ok (.iadd, 1) := by decide +kernel
theorem d_M_makeNode_193 : decode c_M_makeNode 193 = .ok (.iconst (-1), 1) := by decide +kernel
theorem d_M_makeNode_194 : decode c_M_makeNode 194 = .ok (.iastore, 1) := by decide +kernel
theorem d_M_makeNode_195 : decode c_M_makeNode 195 = .ok (.aload_n 0, 1) := by decide +kernel
theorem d_M_makeNode_196 : decode c_M_makeNode 196 = .ok (.getfield 61, 3) := by decide +kernel
theorem d_M_makeNode_199 : decode c_M_makeNode 199 = .ok (.iload 10, 2) := by decide +kernel
theorem d_M_makeNode_201 : decode c_M_makeNode 201 = .ok (.iconst 4, 1) := by decide +kernel
theorem d_M_makeNode_202 : decode c_M_makeNode 202 = .ok (.iadd, 1) := by decide +kernel
theorem d_M_makeNode_203 : decode c_M_makeNode 203 = .ok (.iload_n 2, 1) := by decide +kernel
theorem d_M_makeNode_204 : decode c_M_makeNode 204 = .ok (.iastore, 1) := by decide +kernel
theorem d_M_makeNode_205 : decode c_M_makeNode 205 = .ok (.aload_n 0, 1) := by decide +kernel
theorem d_M_makeNode_206 : decode c_M_makeNode 206 = .ok (.getfield 61, 3) := by decide +kernel
theorem d_M_makeNode_209 : decode c_M_makeNode 209 = .ok (.iload 10, 2) := by decide +kernel
theorem d_M_makeNode_211 : decode c_M_makeNode 211 = .ok (.iconst 5, 1) := by decide +kernel
theorem d_M_makeNode_212 : decode c_M_makeNode 212 = .ok (.iadd, 1) := by decide +kernel
theorem d_M_makeNode_213 : decode c_M_makeNode 213 = .ok (.iconst 0, 1) := by decide +kernel
theorem d_M_makeNode_214 : decode c_M_makeNode 214 = .ok (.iastore, 1) := by decide +kernel
theorem d_M_makeNode_215 : decode c_M_makeNode 215 = .ok (.aload_n 0, 1) := by decide +kernel
theorem d_M_makeNode_216 : decode c_M_makeNode 216 = .ok (.getfield 61, 3) := by decide +kernel
theorem d_M_makeNode_219 : decode c_M_makeNode 219 = .ok (.iload 10, 2) := by decide +kernel
theorem d_M_makeNode_221 : decode c_M_makeNode 221 = .ok (.bipush 6, 2) := by decide +kernel
theorem d_M_makeNode_223 : decode c_M_makeNode 223 = .ok (.iadd, 1) := by decide +kernel
theorem d_M_makeNode_224 : decode c_M_makeNode 224 = .ok (.iload 8, 2) := by decide +kernel
theorem d_M_makeNode_226 : decode c_M_makeNode 226 = .ok (.iload 9, 2) := by decide +kernel
theorem d_M_makeNode_228 : decode c_M_makeNode 228 = .ok (.if_icmp .le 8, 3) := by decide +kernel
theorem d_M_makeNode_231 : decode c_M_makeNode 231 = .ok (.iload 9, 2) := by decide +kernel
theorem d_M_makeNode_233 : decode c_M_makeNode 233 = .ok (.goto 5, 3) := by decide +kernel
theorem d_M_makeNode_236 : decode c_M_makeNode 236 = .ok (.iload 8, 2) := by decide +kernel
theorem d_M_makeNode_238 : decode c_M_makeNode 238 = .ok (.iastore, 1) := by decide +kernel
theorem d_M_makeNode_239 : decode c_M_makeNode 239 = .ok (.iload_n 2, 1) := by decide +kernel
theorem d_M_makeNode_240 : decode c_M_makeNode 240 = .ok (.ifCond .lt 18, 3) := by decide +kernel
theorem d_M_makeNode_243 : decode c_M_makeNode 243 = .ok (.aload_n 0, 1) := by decide +kernel
theorem d_M_makeNode_244 : decode c_M_makeNode 244 = .ok (.getfield 61, 3) := by decide +kernel
theorem d_M_makeNode_247 : decode c_M_makeNode 247 = .ok (.bipush 7, 2) := by decide +kernel
theorem d_M_makeNode_249 : decode c_M_makeNode 249 = .ok (.iload_n 2, 1) := by decide +kernel
theorem d_M_makeNode_250 : decode c_M_makeNode 250 = .ok (.imul, 1) := by decide +kernel
theorem d_M_makeNode_251 : decode c_M_makeNode 251 = .ok (.iconst 5, 1) := by decide +kernel
theorem d_M_makeNode_252 : decode c_M_makeNode 252 = .ok (.iadd, 1) := by decide +kernel
theorem d_M_makeNode_253 : decode c_M_makeNode 253 = .ok (.dup2, 1) := by decide +kernel
theorem d_M_makeNode_254 : decode c_M_makeNode 254 = .ok (.iaload, 1) := by decide +kernel
theorem d_M_makeNode_255 : decode c_M_makeNode 255 = .ok (.iconst 1, 1) := by decide +kernel
theorem d_M_makeNode_256 : decode c_M_makeNode 256 = .ok (.iadd, 1) := by decide +kernel
theorem d_M_makeNode_257 : decode c_M_makeNode 257 = .ok (.iastore, 1) := by decide +kernel
theorem d_M_makeNode_258 : decode c_M_makeNode 258 = .ok (.aload_n 0, 1) := by decide +kernel
theorem d_M_makeNode_259 : decode c_M_makeNode 259 = .ok (.bipush (-100), 2) := by decide +kernel
theorem d_M_makeNode_261 : decode c_M_makeNode 261 = .ok (.iload 4, 2) := by decide +kernel
theorem d_M_makeNode_263 : decode c_M_makeNode 263 = .ok (.isub, 1) := by decide +kernel
theorem d_M_makeNode_264 : decode c_M_makeNode 264 = .ok (.iload 4, 2) := by decide +kernel
theorem d_M_makeNode_266 : decode c_M_makeNode 266 = .ok (.lload 5, 2) := by decide +kernel
theorem d_M_makeNode_268 : decode c_M_makeNode 268 = .ok (.invokevirtual 141, 3) := by decide +kernel
theorem d_M_makeNode_271 : decode c_M_makeNode 271 = .ok (.aload_n 0, 1) := by decide +kernel
theorem d_M_makeNode_272 : decode c_M_makeNode 272 = .ok (.iload_n 1, 1) := by decide +kernel
theorem d_M_makeNode_273 : decode c_M_makeNode 273 = .ok (.iload 7, 2) := by decide +kernel
theorem d_M_makeNode_275 : decode c_M_makeNode 275 = .ok (.invokevirtual 77, 3) := by decide +kernel
theorem d_M_makeNode_278 : decode c_M_makeNode 278 = .ok (.iconst 1, 1) := by decide +kernel
theorem d_M_makeNode_279 : decode c_M_makeNode 279 = .ok (.isub, 1) := by decide +kernel
theorem d_M_makeNode_280 : decode c_M_makeNode 280 = .ok (.istore 11, 2) := by decide +kernel
theorem d_M_makeNode_282 : decode c_M_makeNode 282 = .ok (.iload 11, 2) := by decide +kernel
theorem d_M_makeNode_284 : decode c_M_makeNode 284 = .ok (.ifCond .lt 45, 3) := by decide +kernel
theorem d_M_makeNode_287 : decode c_M_makeNode 287 = .ok (.aload_n 0, 1) := by decide +kernel
theorem d_M_makeNode_288 : decode c_M_makeNode 288 = .ok (.iload_n 1, 1) := by decide +kernel
theorem d_M_makeNode_289 : decode c_M_makeNode 289 = .ok (.iload 7, 2) := by decide +kernel
theorem d_M_makeNode_291 : decode c_M_makeNode 291 = .ok (.iload 11, 2) := by decide +kernel
theorem d_M_makeNode_293 : decode c_M_makeNode 293 = .ok (.invokevirtual 81, 3) := by decide +kernel
theorem d_M_makeNode_296 : decode c_M_makeNode 296 = .ok (.istore 12, 2) := by decide +kernel
theorem d_M_makeNode_298 : decode c_M_makeNode 298 = .ok (.aload_n 0, 1) := by decide +kernel
theorem d_M_makeNode_299 : decode c_M_makeNode 299 = .ok (.iload 12, 2) := by decide +kernel
theorem d_M_makeNode_301 : decode c_M_makeNode 301 = .ok (.iload 4, 2) := by decide +kernel
theorem d_M_makeNode_303 : decode c_M_makeNode 303 = .ok (.aload_n 0, 1) := by decide +kernel
theorem d_M_makeNode_304 : decode c_M_makeNode 304 = .ok (.aload_n 0, 1) := by decide +kernel
theorem d_M_makeNode_305 : decode c_M_makeNode 305 = .ok (.getfield 70, 3) := by decide +kernel
theorem d_M_makeNode_308 : decode c_M_makeNode 308 = .ok (.aload_n 0, 1) := by decide +kernel
theorem d_M_makeNode_309 : decode c_M_makeNode 309 = .ok (.getfield 132, 3) := by decide +kernel
theorem d_M_makeNode_312 : decode c_M_makeNode 312 = .ok (.iconst 1, 1) := by decide +kernel
theorem d_M_makeNode_313 : decode c_M_makeNode 313 = .ok (.isub, 1) := by decide +kernel
theorem d_M_makeNode_314 : decode c_M_makeNode 314 = .ok (.laload, 1) := by decide +kernel
theorem d_M_makeNode_315 : decode c_M_makeNode 315 = .ok (.iload 12, 2) := by decide +kernel
theorem d_M_makeNode_317 : decode c_M_makeNode 317 = .ok (.invokevirtual 145, 3) := by decide +kernel
theorem d_M_makeNode_320 : decode c_M_makeNode 320 = .ok (.invokevirtual 141, 3) := by decide +kernel
theorem d_M_makeNode_323 : decode c_M_makeNode 323 = .ok (.iinc 11 (-1), 3) := by decide +kernel
theorem d_M_makeNode_326 : decode c_M_makeNode 326 = .ok (.goto (-44), 3) := by decide +kernel
theorem d_M_makeNode_329 : decode c_M_makeNode 329 = .ok (.return_, 1) := by decide +kernel
theorem d_M_makeTree_0 : decode c_M_makeTree 0 = .ok (.aload_n 0, 1) := by decide +kernel
theorem d_M_makeTree_1 : decode c_M_makeTree 1 = .ok (.iconst 0, 1) := by decide +kernel
theorem d_M_makeTree_2 : decode c_M_makeTree 2 = .ok (.putfield 132, 3) := by decide +kernel
theorem d_M_makeTree_5 : decode c_M_makeTree 5 = .ok (.aload_n 0, 1) := by decide +kernel
theorem d_M_makeTree_6 : decode c_M_makeTree 6 = .ok (.iconst 0, 1) := by decide +kernel
theorem d_M_makeTree_7 : decode c_M_makeTree 7 = .ok (.putfield 135, 3) := by decide +kernel
theorem d_M_makeTree_10 : decode c_M_makeTree 10 = .ok (.iconst 0, 1) := by decide +kernel
theorem d_M_makeTree_11 : decode c_M_makeTree 11 = .ok (.istore_n 1, 1) := by decide +kernel
theorem d_M_makeTree_12 : decode c_M_makeTree 12 = .ok (.aload_n 0, 1) := by decide +kernel
theorem d_M_makeTree_13 : decode c_M_makeTree 13 = .ok (.iconst 0, 1) := by decide +kernel
theorem d_M_makeTree_14 : decode c_M_makeTree 14 = .ok (.iconst (-1), 1) := by decide +kernel
theorem d_M_makeTree_15 : decode c_M_makeTree 15 = .ok (.iconst 0, 1) := by decide +kernel
theorem d_M_makeTree_16 : decode c_M_makeTree 16 = .ok (.invokevirtual 148, 3) := by decide +kernel
theorem d_M_makeTree_19 : decode c_M_makeTree 19 = .ok (.aload_n 0, 1) := by decide +kernel
theorem d_M_makeTree_20 : decode c_M_makeTree 20 = .ok (.getfield 132, 3) := by decide +kernel
theorem d_M_makeTree_23 : decode c_M_makeTree 23 = .ok (.ifCond .le 92, 3) := by decide +kernel
theorem d_M_makeTree_26 : decode c_M_makeTree 26 = .ok (.aload_n 0, 1) := by decide +kernel
theorem d_M_makeTree_27 : decode c_M_makeTree 27 = .ok (.dup, 1) := by decide +kernel
theorem d_M_makeTree_28 : decode c_M_makeTree 28 = .ok (.getfield 132, 3) := by decide +kernel
theorem d_M_makeTree_31 : decode c_M_makeTree 31 = .ok (.iconst 1, 1) := by decide +kernel
theorem d_M_makeTree_32 : decode c_M_makeTree 32 = .ok (.isub, 1) := by decide +kernel
theorem d_M_makeTree_33 : decode c_M_makeTree 33 = .ok (.putfield 132, 3) := by decide +kernel
theorem d_M_makeTree_36 : decode c_M_makeTree 36 = .ok (.aload_n 0, 1) := by decide +kernel
theorem d_M_makeTree_37 : decode c_M_makeTree 37 = .ok (.getfield 64, 3) := by decide +kernel
theorem d_M_makeTree_40 : decode c_M_makeTree 40 = .ok (.aload_n 0, 1) := by decide +kernel
theorem d_M_makeTree_41 : decode c_M_makeTree 41 = .ok (.getfield 132, 3) := by decide +kernel
theorem d_M_makeTree_44 : decode c_M_makeTree 44 = .ok (.iaload, 1) := by decide +kernel
theorem d_M_makeTree_45 : decode c_M_makeTree 45 = .ok (.istore_n 2, 1) := by decide +kernel
theorem d_M_makeTree_46 : decode c_M_makeTree 46 = .ok (.iload_n 2, 1) := by decide +kernel
theorem d_M_makeTree_47 : decode c_M_makeTree 47 = .ok (.bipush (-100), 2) := by decide +kernel
theorem d_M_makeTree_49 : decode c_M_makeTree 49 = .ok (.if_icmp .gt 21, 3) := by decide +kernel
theorem d_M_makeTree_52 : decode c_M_makeTree 52 = .ok (.aload_n 0, 1) := by decide +kernel
theorem d_M_makeTree_53 : decode c_M_makeTree 53 = .ok (.getfield 61, 3) := by decide +kernel
theorem d_M_makeTree_56 : decode c_M_makeTree 56 = .ok (.bipush 7, 2) := by decide +kernel
theorem d_M_makeTree_58 : decode c_M_makeTree 58 = .ok (.bipush (-100), 2) := by decide +kernel
theorem d_M_makeTree_60 : decode c_M_makeTree 60 = .ok (.iload_n 2, 1) := by decide +kernel
theorem d_M_makeTree_61 : decode c_M_makeTree 61 = .ok (.isub, 1) := by decide +kernel
theorem d_M_makeTree_62 : decode c_M_makeTree 62 = .ok (.imul, 1) := by decide +kernel
theorem d_M_makeTree_63 : decode c_M_makeTree 63 = .ok (.iconst 3, 1) := by decide +kernel
theorem d_M_makeTree_64 : decode c_M_makeTree 64 = .ok (.iadd, 1) := by decide +kernel
theorem d_M_makeTree_65 : decode c_M_makeTree 65 = .ok (.iload_n 1, 1) := by decide +kernel
theorem d_M_makeTree_66 : decode c_M_makeTree 66 = .ok (.iastore, 1) := by decide +kernel
theorem d_M_makeTree_67 : decode c_M_makeTree 67 = .ok (.goto 45, 3) := by decide +kernel
theorem d_M_makeTree_70 : decode c_M_makeTree 70 = .ok (.iload_n 2, 1) := by decide +kernel
theorem d_M_makeTree_71 : decode c_M_makeTree 71 = .ok (.invokestatic 85, 3) := by decide +kernel
theorem d_M_makeTree_74 : decode c_M_makeTree 74 = .ok (.ifCond .ne 9, 3) := by decide +kernel
theorem d_M_makeTree_77 : decode c_M_makeTree 77 = .ok (.iinc 1 1, 3) := by decide +kernel
theorem d_M_makeTree_80 : decode c_M_makeTree 80 = .ok (.goto 32, 3) := by decide +kernel
theorem d_M_makeTree_83 : decode c_M_makeTree 83 = .ok (.aload_n 0, 1) := by decide +kernel
theorem d_M_makeTree_84 : decode c_M_makeTree 84 = .ok (.getfield 135, 3) := by decide +kernel
theorem d_M_makeTree_87 : decode c_M_makeTree 87 = .ok (.sipush 2000, 3) := by decide +kernel
theorem d_M_makeTree_90 : decode c_M_makeTree 90 = .ok (.if_icmp .ne 5, 3) := by decide +kernel
theorem d_M_makeTree_93 : decode c_M_makeTree 93 = .ok (.iconst 0, 1) := by decide +kernel
theorem d_M_makeTree_94 : decode c_M_makeTree 94 = .ok (.ireturn, 1) := by decide +kernel
theorem d_M_makeTree_95 : decode c_M_makeTree 95 = .ok (.aload_n 0, 1) := by decide +kernel
theorem d_M_makeTree_96 : decode c_M_makeTree 96 = .ok (.iconst (-1), 1) := by decide +kernel
theorem d_M_makeTree_97 : decode c_M_makeTree 97 = .ok (.iload_n 2, 1) := by decide +kernel
theorem d_M_makeTree_98 : decode c_M_makeTree 98 = .ok (.isub, 1) := by decide +kernel
theorem d_M_makeTree_99 : decode c_M_makeTree 99 = .ok (.aload_n 0, 1) := by decide +kernel
theorem d_M_makeTree_100 : decode c_M_makeTree 100 = .ok (.getfield 67, 3) := by decide +kernel
theorem d_M_makeTree_103 : decode c_M_makeTree 103 = .ok (.aload_n 0, 1) := by decide +kernel
theorem d_M_makeTree_104 : decode c_M_makeTree 104 = .ok (.getfield 132, 3) := by decide +kernel
theorem d_M_makeTree_107 : decode c_M_makeTree 107 = .ok (.iaload, 1) := by decide +kernel
theorem d_M_makeTree_108 : decode c_M_makeTree 108 = .ok (.iload_n 1, 1) := by decide +kernel
theorem d_M_makeTree_109 : decode c_M_makeTree 109 = .ok (.invokevirtual 148, 3) := by decide +kernel
theorem d_M_makeTree_112 : decode c_M_makeTree 112 = .ok (.goto (-93), 3) := by decide +kernel
theorem d_M_makeTree_115 : decode c_M_makeTree 115 = .ok (.iconst 1, 1) := by decide +kernel
theorem d_M_makeTree_116 : decode c_M_makeTree 116 = .ok (.ireturn, 1) := by decide +kernel
theorem d_M_parse_0 : decode c_M_parse 0 = .ok (.aload_n 0, 1) := by decide +kernel
theorem d_M_parse_1 : decode c_M_parse 1 = .ok (.aload_n 0, 1) := by decide +kernel
theorem d_M_parse_2 : decode c_M_parse 2 = .ok (.invokevirtual 151, 3) := by decide +kernel
theorem d_M_parse_5 : decode c_M_parse 5 = .ok (.ifCond .ne 7, 3) := by decide +kernel
theorem d_M_parse_8 : decode c_M_parse 8 = .ok (.iconst 0, 1) := by decide +kernel
theorem d_M_parse_9 : decode c_M_parse 9 = .ok (.goto 4, 3) := by decide +kernel
theorem d_M_parse_12 : decode c_M_parse 12 = .ok (.iconst 1, 1) := by decide +kernel
theorem d_M_parse_13 : decode c_M_parse 13 = .ok (.putfield 73, 3) := by decide +kernel
theorem d_M_parse_16 : decode c_M_parse 16 = .ok (.aload_n 0, 1) := by decide +kernel
theorem d_M_parse_17 : decode c_M_parse 17 = .ok (.getfield 73, 3) := by decide +kernel
theorem d_M_parse_20 : decode c_M_parse 20 = .ok (.ifCond .le 5, 3) := by decide +kernel
theorem d_M_parse_23 : decode c_M_parse 23 = .ok (.iconst 0, 1) := by decide +kernel
theorem d_M_parse_24 : decode c_M_parse 24 = .ok (.ireturn, 1) := by decide +kernel
theorem d_M_parse_25 : decode c_M_parse 25 = .ok (.aload_n 0, 1) := by decide +kernel
theorem d_M_parse_26 : decode c_M_parse 26 = .ok (.invokevirtual 155, 3) := by decide +kernel
theorem d_M_parse_29 : decode c_M_parse 29 = .ok (.aload_n 0, 1) := by decide +kernel
theorem d_M_parse_30 : decode c_M_parse 30 = .ok (.getfield 32, 3) := by decide +kernel
theorem d_M_parse_33 : decode c_M_parse 33 = .ok (.iconst 0, 1) := by decide +kernel
theorem d_M_parse_34 : decode c_M_parse 34 = .ok (.laload, 1) := by decide +kernel
theorem d_M_parse_35 : decode c_M_parse 35 = .ok (.aload_n 0, 1) := by decide +kernel
theorem d_M_parse_36 : decode c_M_parse 36 = .ok (.getfield 105, 3) := by decide +kernel
theorem d_M_parse_39 : decode c_M_parse 39 = .ok (.lshr, 1) := by decide +kernel
theorem d_M_parse_40 : decode c_M_parse 40 = .ok (.lconst 1, 1) := by decide +kernel
theorem d_M_parse_41 : decode c_M_parse 41 = .ok (.land, 1) := by decide +kernel
theorem d_M_parse_42 : decode c_M_parse 42 = .ok (.lconst 0, 1) := by decide +kernel
theorem d_M_parse_43 : decode c_M_parse 43 = .ok (.lcmp, 1) := by decide +kernel
theorem d_M_parse_44 : decode c_M_parse 44 = .ok (.ifCond .ne 10, 3) := by decide +kernel
theorem d_M_parse_47 : decode c_M_parse 47 = .ok (.aload_n 0, 1) := by decide +kernel
theorem d_M_parse_48 : decode c_M_parse 48 = .ok (.iconst 0, 1) := by decide +kernel
theorem d_M_parse_49 : decode c_M_parse 49 = .ok (.putfield 158, 3) := by decide +kernel
theorem d_M_parse_52 : decode c_M_parse 52 = .ok (.iconst 0, 1) := by decide +kernel
theorem d_M_parse_53 : decode c_M_parse 53 = .ok (.ireturn, 1) := by decide +kernel
theorem d_M_parse_54 : decode c_M_parse 54 = .ok (.aload_n 0, 1) := by decide +kernel
theorem d_M_parse_55 : decode c_M_parse 55 = .ok (.invokevirtual 161, 3) := by decide +kernel
theorem d_M_parse_58 : decode c_M_parse 58 = .ok (.aload_n 0, 1) := by decide +kernel
theorem d_M_parse_59 : decode c_M_parse 59 = .ok (.getfield 43, 3) := by decide +kernel
theorem d_M_parse_62 : decode c_M_parse 62 = .ok (.aload_n 0, 1) := by decide +kernel
theorem d_M_parse_63 : decode c_M_parse 63 = .ok (.getfield 105, 3) := by decide +kernel
theorem d_M_parse_66 : decode c_M_parse 66 = .ok (.laload, 1) := by decide +kernel
theorem d_M_parse_67 : decode c_M_parse 67 = .ok (.l2i, 1) := by decide +kernel
theorem d_M_parse_68 : decode c_M_parse 68 = .ok (.istore_n 1, 1) := by decide +kernel
theorem d_M_parse_69 : decode c_M_parse 69 = .ok (.aload_n 0, 1) := by decide +kernel
theorem d_M_parse_70 : decode c_M_parse 70 = .ok (.aload_n 0, 1) := by decide +kernel
theorem d_M_parse_71 : decode c_M_parse 71 = .ok (.invokevirtual 164, 3) := by decide +kernel
theorem d_M_parse_74 : decode c_M_parse 74 = .ok (.ifCond .eq 7, 3) := by decide +kernel
theorem d_M_parse_77 : decode c_M_parse 77 = .ok (.iconst 0, 1) := by decide +kernel
theorem d_M_parse_78 : decode c_M_parse 78 = .ok (.goto 4, 3) := by decide +kernel
theorem d_M_parse_81 : decode c_M_parse 81 = .ok (.iconst 2, 1) := by decide +kernel
theorem d_M_parse_82 : decode c_M_parse 82 = .ok (.putfield 73, 3) := by decide +kernel
theorem d_M_parse_85 : decode c_M_parse 85 = .ok (.aload_n 0, 1) := by decide +kernel
theorem d_M_parse_86 : decode c_M_parse 86 = .ok (.getfield 73, 3) := by decide +kernel
theorem d_M_parse_89 : decode c_M_parse 89 = .ok (.ifCond .le 5, 3) := by decide +kernel
theorem d_M_parse_92 : decode c_M_parse 92 = .ok (.iconst 0, 1) := by decide +kernel
theorem d_M_parse_93 : decode c_M_parse 93 = .ok (.ireturn, 1) := by decide +kernel
theorem d_M_parse_94 : decode c_M_parse 94 = .ok (.aload_n 0, 1) := by decide +kernel
theorem d_M_parse_95 : decode c_M_parse 95 = .ok (.aload_n 0, 1) := by decide +kernel
theorem d_M_parse_96 : decode c_M_parse 96 = .ok (.getfield 135, 3) := by decide +kernel
theorem d_M_parse_99 : decode c_M_parse 99 = .ok (.putfield 158, 3) := by decide +kernel
theorem d_M_parse_102 : decode c_M_parse 102 = .ok (.iconst 0, 1) := by decide +kernel
theorem d_M_parse_103 : decode c_M_parse 103 = .ok (.istore_n 2, 1) := by decide +kernel
theorem d_M_parse_104 : decode c_M_parse 104 = .ok (.iload_n 2, 1) := by decide +kernel
theorem d_M_parse_105 : decode c_M_parse 105 = .ok (.bipush 7, 2) := by decide +kernel
theorem d_M_parse_107 : decode c_M_parse 107 = .ok (.aload_n 0, 1) := by decide +kernel
theorem d_M_parse_108 : decode c_M_parse 108 = .ok (.getfield 158, 3) := by decide +kernel
theorem d_M_parse_111 : decode c_M_parse 111 = .ok (.imul, 1) := by decide +kernel
theorem d_M_parse_112 : decode c_M_parse 112 = .ok (.if_icmp .ge 21, 3) := by decide +kernel
theorem d_M_parse_115 : decode c_M_parse 115 = .ok (.aload_n 0, 1) := by decide +kernel
theorem d_M_parse_116 : decode c_M_parse 116 = .ok (.getfield 58, 3) := by decide +kernel
theorem d_M_parse_119 : decode c_M_parse 119 = .ok (.iload_n 2, 1) := by decide +kernel
theorem d_M_parse_120 : decode c_M_parse 120 = .ok (.aload_n 0, 1) := by decide +kernel
theorem d_M_parse_121 : decode c_M_parse 121 = .ok (.getfield 61, 3) := by decide +kernel
theorem d_M_parse_124 : decode c_M_parse 124 = .ok (.iload_n 2, 1) := by decide +kernel
theorem d_M_parse_125 : decode c_M_parse 125 = .ok (.iaload, 1) := by decide +kernel
theorem d_M_parse_126 : decode c_M_parse 126 = .ok (.iastore, 1) := by decide +kernel
theorem d_M_parse_127 : decode c_M_parse 127 = .ok (.iinc 2 1, 3) := by decide +kernel
theorem d_M_parse_130 : decode c_M_parse 130 = .ok (.goto (-26), 3) := by decide +kernel
theorem d_M_parse_133 : decode c_M_parse 133 = .ok (.iload_n 1, 1) := by decide +kernel
theorem d_M_parse_134 : decode c_M_parse 134 = .ok (.ireturn, 1) := by decide +kernel
