/-! decode rows, by program -/
theorem d_C_init_0 : decode c_C_init 0 = .ok (.aload_n 0, 1) := by decide +kernel
theorem d_C_init_1 : decode c_C_init 1 = .ok (.invokespecial 3, 3) := by decide +kernel
theorem d_C_init_4 : decode c_C_init 4 = .ok (.aload_n 0, 1) := by decide +kernel
theorem d_C_init_5 : decode c_C_init 5 = .ok (.bipush 32, 2) := by decide +kernel
theorem d_C_init_7 : decode c_C_init 7 = .ok (.newarray .long, 2) := by decide +kernel
theorem d_C_init_9 : decode c_C_init 9 = .ok (.putfield 9, 3) := by decide +kernel
theorem d_C_init_12 : decode c_C_init 12 = .ok (.aload_n 0, 1) := by decide +kernel
theorem d_C_init_13 : decode c_C_init 13 = .ok (.sipush 7808, 3) := by decide +kernel
theorem d_C_init_16 : decode c_C_init 16 = .ok (.newarray .long, 2) := by decide +kernel
theorem d_C_init_18 : decode c_C_init 18 = .ok (.putfield 15, 3) := by decide +kernel
theorem d_C_init_21 : decode c_C_init 21 = .ok (.aload_n 0, 1) := by decide +kernel
theorem d_C_init_22 : decode c_C_init 22 = .ok (.sipush 7808, 3) := by decide +kernel
theorem d_C_init_25 : decode c_C_init 25 = .ok (.newarray .int, 2) := by decide +kernel
theorem d_C_init_27 : decode c_C_init 27 = .ok (.putfield 18, 3) := by decide +kernel
theorem d_C_init_30 : decode c_C_init 30 = .ok (.aload_n 0, 1) := by decide +kernel
theorem d_C_init_31 : decode c_C_init 31 = .ok (.sipush 976, 3) := by decide +kernel
theorem d_C_init_34 : decode c_C_init 34 = .ok (.newarray .long, 2) := by decide +kernel
theorem d_C_init_36 : decode c_C_init 36 = .ok (.putfield 22, 3) := by decide +kernel
theorem d_C_init_39 : decode c_C_init 39 = .ok (.aload_n 0, 1) := by decide +kernel
theorem d_C_init_40 : decode c_C_init 40 = .ok (.sipush 976, 3) := by decide +kernel
theorem d_C_init_43 : decode c_C_init 43 = .ok (.newarray .int, 2) := by decide +kernel
theorem d_C_init_45 : decode c_C_init 45 = .ok (.putfield 25, 3) := by decide +kernel
theorem d_C_init_48 : decode c_C_init 48 = .ok (.aload_n 0, 1) := by decide +kernel
theorem d_C_init_49 : decode c_C_init 49 = .ok (.sipush 976, 3) := by decide +kernel
theorem d_C_init_52 : decode c_C_init 52 = .ok (.newarray .long, 2) := by decide +kernel
theorem d_C_init_54 : decode c_C_init 54 = .ok (.putfield 28, 3) := by decide +kernel
theorem d_C_init_57 : decode c_C_init 57 = .ok (.aload_n 0, 1) := by decide +kernel
theorem d_C_init_58 : decode c_C_init 58 = .ok (.aload_n 1, 1) := by decide +kernel
theorem d_C_init_59 : decode c_C_init 59 = .ok (.putfield 31, 3) := by decide +kernel
theorem d_C_init_62 : decode c_C_init 62 = .ok (.aload_n 0, 1) := by decide +kernel
theorem d_C_init_63 : decode c_C_init 63 = .ok (.aload_n 2, 1) := by decide +kernel
theorem d_C_init_64 : decode c_C_init 64 = .ok (.putfield 35, 3) := by decide +kernel
theorem d_C_init_67 : decode c_C_init 67 = .ok (.aload_n 0, 1) := by decide +kernel
theorem d_C_init_68 : decode c_C_init 68 = .ok (.aload_n 3, 1) := by decide +kernel
theorem d_C_init_69 : decode c_C_init 69 = .ok (.putfield 39, 3) := by decide +kernel
theorem d_C_init_72 : decode c_C_init 72 = .ok (.return_, 1) := by decide +kernel
theorem d_C_fill_0 : decode c_C_fill 0 = .ok (.aload_n 0, 1) := by decide +kernel
theorem d_C_fill_1 : decode c_C_fill 1 = .ok (.iload_n 1, 1) := by decide +kernel
theorem d_C_fill_2 : decode c_C_fill 2 = .ok (.putfield 43, 3) := by decide +kernel
theorem d_C_fill_5 : decode c_C_fill 5 = .ok (.aload_n 0, 1) := by decide +kernel
theorem d_C_fill_6 : decode c_C_fill 6 = .ok (.invokevirtual 47, 3) := by decide +kernel
theorem d_C_fill_9 : decode c_C_fill 9 = .ok (.iload_n 1, 1) := by decide +kernel
theorem d_C_fill_10 : decode c_C_fill 10 = .ok (.istore_n 2, 1) := by decide +kernel
theorem d_C_fill_11 : decode c_C_fill 11 = .ok (.iload_n 2, 1) := by decide +kernel
theorem d_C_fill_12 : decode c_C_fill 12 = .ok (.ifCond .lt 41, 3) := by decide +kernel
theorem d_C_fill_15 : decode c_C_fill 15 = .ok (.iconst 0, 1) := by decide +kernel
theorem d_C_fill_16 : decode c_C_fill 16 = .ok (.istore_n 3, 1) := by decide +kernel
theorem d_C_fill_17 : decode c_C_fill 17 = .ok (.iload_n 3, 1) := by decide +kernel
theorem d_C_fill_18 : decode c_C_fill 18 = .ok (.aload_n 0, 1) := by decide +kernel
theorem d_C_fill_19 : decode c_C_fill 19 = .ok (.getfield 31, 3) := by decide +kernel
theorem d_C_fill_22 : decode c_C_fill 22 = .ok (.invokevirtual 50, 3) := by decide +kernel
theorem d_C_fill_25 : decode c_C_fill 25 = .ok (.if_icmp .ge 22, 3) := by decide +kernel
theorem d_C_fill_28 : decode c_C_fill 28 = .ok (.aload_n 0, 1) := by decide +kernel
theorem d_C_fill_29 : decode c_C_fill 29 = .ok (.aload_n 0, 1) := by decide +kernel
theorem d_C_fill_30 : decode c_C_fill 30 = .ok (.getfield 35, 3) := by decide +kernel
theorem d_C_fill_33 : decode c_C_fill 33 = .ok (.iload_n 3, 1) := by decide +kernel
theorem d_C_fill_34 : decode c_C_fill 34 = .ok (.invokevirtual 56, 3) := by decide +kernel
theorem d_C_fill_37 : decode c_C_fill 37 = .ok (.iload_n 2, 1) := by decide +kernel
theorem d_C_fill_38 : decode c_C_fill 38 = .ok (.invokevirtual 62, 3) := by decide +kernel
theorem d_C_fill_41 : decode c_C_fill 41 = .ok (.iinc 3 1, 3) := by decide +kernel
theorem d_C_fill_44 : decode c_C_fill 44 = .ok (.goto (-27), 3) := by decide +kernel
theorem d_C_fill_47 : decode c_C_fill 47 = .ok (.iinc 2 (-1), 3) := by decide +kernel
theorem d_C_fill_50 : decode c_C_fill 50 = .ok (.goto (-39), 3) := by decide +kernel
theorem d_C_fill_53 : decode c_C_fill 53 = .ok (.return_, 1) := by decide +kernel
theorem d_C_hasTree_0 : decode c_C_hasTree 0 = .ok (.aload_n 0, 1) := by decide +kernel
theorem d_C_hasTree_1 : decode c_C_hasTree 1 = .ok (.getfield 22, 3) := by decide +kernel
theorem d_C_hasTree_4 : decode c_C_hasTree 4 = .ok (.iconst 0, 1) := by decide +kernel
theorem d_C_hasTree_5 : decode c_C_hasTree 5 = .ok (.iconst 0, 1) := by decide +kernel
theorem d_C_hasTree_6 : decode c_C_hasTree 6 = .ok (.invokestatic 66, 3) := by decide +kernel
theorem d_C_hasTree_9 : decode c_C_hasTree 9 = .ok (.laload, 1) := by decide +kernel
theorem d_C_hasTree_10 : decode c_C_hasTree 10 = .ok (.aload_n 0, 1) := by decide +kernel
theorem d_C_hasTree_11 : decode c_C_hasTree 11 = .ok (.getfield 43, 3) := by decide +kernel
theorem d_C_hasTree_14 : decode c_C_hasTree 14 = .ok (.invokestatic 70, 3) := by decide +kernel
theorem d_C_hasTree_17 : decode c_C_hasTree 17 = .ok (.ireturn, 1) := by decide +kernel
theorem d_C_farOfAll_0 : decode c_C_farOfAll 0 = .ok (.aload_n 0, 1) := by decide +kernel
theorem d_C_farOfAll_1 : decode c_C_farOfAll 1 = .ok (.getfield 25, 3) := by decide +kernel
theorem d_C_farOfAll_4 : decode c_C_farOfAll 4 = .ok (.iconst 0, 1) := by decide +kernel
theorem d_C_farOfAll_5 : decode c_C_farOfAll 5 = .ok (.iconst 0, 1) := by decide +kernel
theorem d_C_farOfAll_6 : decode c_C_farOfAll 6 = .ok (.invokestatic 66, 3) := by decide +kernel
theorem d_C_farOfAll_9 : decode c_C_farOfAll 9 = .ok (.iaload, 1) := by decide +kernel
theorem d_C_farOfAll_10 : decode c_C_farOfAll 10 = .ok (.ireturn, 1) := by decide +kernel
theorem d_C_soonOfAll_0 : decode c_C_soonOfAll 0 = .ok (.aload_n 0, 1) := by decide +kernel
theorem d_C_soonOfAll_1 : decode c_C_soonOfAll 1 = .ok (.getfield 28, 3) := by decide +kernel
theorem d_C_soonOfAll_4 : decode c_C_soonOfAll 4 = .ok (.iconst 0, 1) := by decide +kernel
theorem d_C_soonOfAll_5 : decode c_C_soonOfAll 5 = .ok (.iconst 0, 1) := by decide +kernel
theorem d_C_soonOfAll_6 : decode c_C_soonOfAll 6 = .ok (.invokestatic 66, 3) := by decide +kernel
theorem d_C_soonOfAll_9 : decode c_C_soonOfAll 9 = .ok (.laload, 1) := by decide +kernel
theorem d_C_soonOfAll_10 : decode c_C_soonOfAll 10 = .ok (.lreturn, 1) := by decide +kernel
theorem d_C_end_0 : decode c_C_end 0 = .ok (.aload_n 0, 1) := by decide +kernel
theorem d_C_end_1 : decode c_C_end 1 = .ok (.getfield 43, 3) := by decide +kernel
theorem d_C_end_4 : decode c_C_end 4 = .ok (.ireturn, 1) := by decide +kernel
theorem d_C_at_0 : decode c_C_at 0 = .ok (.iload_n 0, 1) := by decide +kernel
theorem d_C_at_1 : decode c_C_at 1 = .ok (.bipush 61, 2) := by decide +kernel
theorem d_C_at_3 : decode c_C_at 3 = .ok (.imul, 1) := by decide +kernel
theorem d_C_at_4 : decode c_C_at 4 = .ok (.iload_n 1, 1) := by decide +kernel
theorem d_C_at_5 : decode c_C_at 5 = .ok (.iadd, 1) := by decide +kernel
theorem d_C_at_6 : decode c_C_at 6 = .ok (.ireturn, 1) := by decide +kernel
theorem d_C_rowFits_0 : decode c_C_rowFits 0 = .ok (.aload_n 0, 1) := by decide +kernel
theorem d_C_rowFits_1 : decode c_C_rowFits 1 = .ok (.getfield 15, 3) := by decide +kernel
theorem d_C_rowFits_4 : decode c_C_rowFits 4 = .ok (.iload_n 1, 1) := by decide +kernel
theorem d_C_rowFits_5 : decode c_C_rowFits 5 = .ok (.laload, 1) := by decide +kernel
theorem d_C_rowFits_6 : decode c_C_rowFits 6 = .ok (.lreturn, 1) := by decide +kernel
theorem d_C_rowFar_0 : decode c_C_rowFar 0 = .ok (.aload_n 0, 1) := by decide +kernel
theorem d_C_rowFar_1 : decode c_C_rowFar 1 = .ok (.getfield 18, 3) := by decide +kernel
theorem d_C_rowFar_4 : decode c_C_rowFar 4 = .ok (.iload_n 1, 1) := by decide +kernel
theorem d_C_rowFar_5 : decode c_C_rowFar 5 = .ok (.iaload, 1) := by decide +kernel
theorem d_C_rowFar_6 : decode c_C_rowFar 6 = .ok (.ireturn, 1) := by decide +kernel
theorem d_C_ruleFits_0 : decode c_C_ruleFits 0 = .ok (.aload_n 0, 1) := by decide +kernel
theorem d_C_ruleFits_1 : decode c_C_ruleFits 1 = .ok (.getfield 22, 3) := by decide +kernel
theorem d_C_ruleFits_4 : decode c_C_ruleFits 4 = .ok (.iload_n 1, 1) := by decide +kernel
theorem d_C_ruleFits_5 : decode c_C_ruleFits 5 = .ok (.laload, 1) := by decide +kernel
theorem d_C_ruleFits_6 : decode c_C_ruleFits 6 = .ok (.lreturn, 1) := by decide +kernel
theorem d_C_ruleFar_0 : decode c_C_ruleFar 0 = .ok (.aload_n 0, 1) := by decide +kernel
theorem d_C_ruleFar_1 : decode c_C_ruleFar 1 = .ok (.getfield 25, 3) := by decide +kernel
theorem d_C_ruleFar_4 : decode c_C_ruleFar 4 = .ok (.iload_n 1, 1) := by decide +kernel
theorem d_C_ruleFar_5 : decode c_C_ruleFar 5 = .ok (.iaload, 1) := by decide +kernel
theorem d_C_ruleFar_6 : decode c_C_ruleFar 6 = .ok (.ireturn, 1) := by decide +kernel
theorem d_C_findPlaces_0 : decode c_C_findPlaces 0 = .ok (.iconst 0, 1) := by decide +kernel
theorem d_C_findPlaces_1 : decode c_C_findPlaces 1 = .ok (.istore_n 1, 1) := by decide +kernel
theorem d_C_findPlaces_2 : decode c_C_findPlaces 2 = .ok (.iload_n 1, 1) := by decide +kernel
theorem d_C_findPlaces_3 : decode c_C_findPlaces 3 = .ok (.bipush 32, 2) := by decide +kernel
theorem d_C_findPlaces_5 : decode c_C_findPlaces 5 = .ok (.if_icmp .ge 16, 3) := by decide +kernel
theorem d_C_findPlaces_8 : decode c_C_findPlaces 8 = .ok (.aload_n 0, 1) := by decide +kernel
theorem d_C_findPlaces_9 : decode c_C_findPlaces 9 = .ok (.getfield 9, 3) := by decide +kernel
theorem d_C_findPlaces_12 : decode c_C_findPlaces 12 = .ok (.iload_n 1, 1) := by decide +kernel
theorem d_C_findPlaces_13 : decode c_C_findPlaces 13 = .ok (.lconst 0, 1) := by decide +kernel
theorem d_C_findPlaces_14 : decode c_C_findPlaces 14 = .ok (.lastore, 1) := by decide +kernel
theorem d_C_findPlaces_15 : decode c_C_findPlaces 15 = .ok (.iinc 1 1, 3) := by decide +kernel
theorem d_C_findPlaces_18 : decode c_C_findPlaces 18 = .ok (.goto (-16), 3) := by decide +kernel
theorem d_C_findPlaces_21 : decode c_C_findPlaces 21 = .ok (.iconst 0, 1) := by decide +kernel
theorem d_C_findPlaces_22 : decode c_C_findPlaces 22 = .ok (.istore_n 1, 1) := by decide +kernel
theorem d_C_findPlaces_23 : decode c_C_findPlaces 23 = .ok (.iload_n 1, 1) := by decide +kernel
theorem d_C_findPlaces_24 : decode c_C_findPlaces 24 = .ok (.aload_n 0, 1) := by decide +kernel
theorem d_C_findPlaces_25 : decode c_C_findPlaces 25 = .ok (.getfield 43, 3) := by decide +kernel
theorem d_C_findPlaces_28 : decode c_C_findPlaces 28 = .ok (.if_icmp .ge 28, 3) := by decide +kernel
theorem d_C_findPlaces_31 : decode c_C_findPlaces 31 = .ok (.aload_n 0, 1) := by decide +kernel
theorem d_C_findPlaces_32 : decode c_C_findPlaces 32 = .ok (.getfield 9, 3) := by decide +kernel
theorem d_C_findPlaces_35 : decode c_C_findPlaces 35 = .ok (.aload_n 0, 1) := by decide +kernel
theorem d_C_findPlaces_36 : decode c_C_findPlaces 36 = .ok (.getfield 39, 3) := by decide +kernel
theorem d_C_findPlaces_39 : decode c_C_findPlaces 39 = .ok (.iload_n 1, 1) := by decide +kernel
theorem d_C_findPlaces_40 : decode c_C_findPlaces 40 = .ok (.invokevirtual 74, 3) := by decide +kernel
theorem d_C_findPlaces_43 : decode c_C_findPlaces 43 = .ok (.dup2, 1) := by decide +kernel
theorem d_C_findPlaces_44 : decode c_C_findPlaces 44 = .ok (.laload, 1) := by decide +kernel
theorem d_C_findPlaces_45 : decode c_C_findPlaces 45 = .ok (.lconst 1, 1) := by decide +kernel
theorem d_C_findPlaces_46 : decode c_C_findPlaces 46 = .ok (.iload_n 1, 1) := by decide +kernel
theorem d_C_findPlaces_47 : decode c_C_findPlaces 47 = .ok (.lshl, 1) := by decide +kernel
theorem d_C_findPlaces_48 : decode c_C_findPlaces 48 = .ok (.lor, 1) := by decide +kernel
theorem d_C_findPlaces_49 : decode c_C_findPlaces 49 = .ok (.lastore, 1) := by decide +kernel
theorem d_C_findPlaces_50 : decode c_C_findPlaces 50 = .ok (.iinc 1 1, 3) := by decide +kernel
theorem d_C_findPlaces_53 : decode c_C_findPlaces 53 = .ok (.goto (-30), 3) := by decide +kernel
theorem d_C_findPlaces_56 : decode c_C_findPlaces 56 = .ok (.return_, 1) := by decide +kernel
theorem d_C_fillRule_0 : decode c_C_fillRule 0 = .ok (.lconst 0, 1) := by decide +kernel
theorem d_C_fillRule_1 : decode c_C_fillRule 1 = .ok (.lstore_n 3, 1) := by decide +kernel
theorem d_C_fillRule_2 : decode c_C_fillRule 2 = .ok (.iload_n 2, 1) := by decide +kernel
theorem d_C_fillRule_3 : decode c_C_fillRule 3 = .ok (.istore 5, 2) := by decide +kernel
theorem d_C_fillRule_5 : decode c_C_fillRule 5 = .ok (.lconst 0, 1) := by decide +kernel
theorem d_C_fillRule_6 : decode c_C_fillRule 6 = .ok (.lstore 6, 2) := by decide +kernel
theorem d_C_fillRule_8 : decode c_C_fillRule 8 = .ok (.iconst 0, 1) := by decide +kernel
theorem d_C_fillRule_9 : decode c_C_fillRule 9 = .ok (.istore 8, 2) := by decide +kernel
theorem d_C_fillRule_11 : decode c_C_fillRule 11 = .ok (.iload 8, 2) := by decide +kernel
theorem d_C_fillRule_13 : decode c_C_fillRule 13 = .ok (.aload_n 0, 1) := by decide +kernel
theorem d_C_fillRule_14 : decode c_C_fillRule 14 = .ok (.getfield 31, 3) := by decide +kernel
theorem d_C_fillRule_17 : decode c_C_fillRule 17 = .ok (.iload_n 1, 1) := by decide +kernel
theorem d_C_fillRule_18 : decode c_C_fillRule 18 = .ok (.invokevirtual 79, 3) := by decide +kernel
theorem d_C_fillRule_21 : decode c_C_fillRule 21 = .ok (.if_icmp .ge 81, 3) := by decide +kernel
theorem d_C_fillRule_24 : decode c_C_fillRule 24 = .ok (.iload_n 1, 1) := by decide +kernel
theorem d_C_fillRule_25 : decode c_C_fillRule 25 = .ok (.iload 8, 2) := by decide +kernel
theorem d_C_fillRule_27 : decode c_C_fillRule 27 = .ok (.invokestatic 82, 3) := by decide +kernel
theorem d_C_fillRule_30 : decode c_C_fillRule 30 = .ok (.istore 9, 2) := by decide +kernel
theorem d_C_fillRule_32 : decode c_C_fillRule 32 = .ok (.aload_n 0, 1) := by decide +kernel
theorem d_C_fillRule_33 : decode c_C_fillRule 33 = .ok (.iload 9, 2) := by decide +kernel
theorem d_C_fillRule_35 : decode c_C_fillRule 35 = .ok (.iload_n 2, 1) := by decide +kernel
theorem d_C_fillRule_36 : decode c_C_fillRule 36 = .ok (.invokevirtual 85, 3) := by decide +kernel
theorem d_C_fillRule_39 : decode c_C_fillRule 39 = .ok (.aload_n 0, 1) := by decide +kernel
theorem d_C_fillRule_40 : decode c_C_fillRule 40 = .ok (.getfield 15, 3) := by decide +kernel
theorem d_C_fillRule_43 : decode c_C_fillRule 43 = .ok (.iload 9, 2) := by decide +kernel
theorem d_C_fillRule_45 : decode c_C_fillRule 45 = .ok (.iload_n 2, 1) := by decide +kernel
theorem d_C_fillRule_46 : decode c_C_fillRule 46 = .ok (.invokestatic 66, 3) := by decide +kernel
theorem d_C_fillRule_49 : decode c_C_fillRule 49 = .ok (.aload_n 0, 1) := by decide +kernel
theorem d_C_fillRule_50 : decode c_C_fillRule 50 = .ok (.getfield 88, 3) := by decide +kernel
theorem d_C_fillRule_53 : decode c_C_fillRule 53 = .ok (.lastore, 1) := by decide +kernel
theorem d_C_fillRule_54 : decode c_C_fillRule 54 = .ok (.aload_n 0, 1) := by decide +kernel
theorem d_C_fillRule_55 : decode c_C_fillRule 55 = .ok (.getfield 18, 3) := by decide +kernel
theorem d_C_fillRule_58 : decode c_C_fillRule 58 = .ok (.iload 9, 2) := by decide +kernel
theorem d_C_fillRule_60 : decode c_C_fillRule 60 = .ok (.iload_n 2, 1) := by decide +kernel
theorem d_C_fillRule_61 : decode c_C_fillRule 61 = .ok (.invokestatic 66, 3) := by decide +kernel
theorem d_C_fillRule_64 : decode c_C_fillRule 64 = .ok (.aload_n 0, 1) := by decide +kernel
theorem d_C_fillRule_65 : decode c_C_fillRule 65 = .ok (.getfield 92, 3) := by decide +kernel
theorem d_C_fillRule_68 : decode c_C_fillRule 68 = .ok (.iastore, 1) := by decide +kernel
theorem d_C_fillRule_69 : decode c_C_fillRule 69 = .ok (.lload_n 3, 1) := by decide +kernel
theorem d_C_fillRule_70 : decode c_C_fillRule 70 = .ok (.aload_n 0, 1) := by decide +kernel
theorem d_C_fillRule_71 : decode c_C_fillRule 71 = .ok (.getfield 88, 3) := by decide +kernel
theorem d_C_fillRule_74 : decode c_C_fillRule 74 = .ok (.lor, 1) := by decide +kernel
theorem d_C_fillRule_75 : decode c_C_fillRule 75 = .ok (.lstore_n 3, 1) := by decide +kernel
theorem d_C_fillRule_76 : decode c_C_fillRule 76 = .ok (.iload 5, 2) := by decide +kernel
theorem d_C_fillRule_78 : decode c_C_fillRule 78 = .ok (.aload_n 0, 1) := by decide +kernel
theorem d_C_fillRule_79 : decode c_C_fillRule 79 = .ok (.getfield 92, 3) := by decide +kernel
theorem d_C_fillRule_82 : decode c_C_fillRule 82 = .ok (.invokestatic 95, 3) := by decide +kernel
theorem d_C_fillRule_85 : decode c_C_fillRule 85 = .ok (.istore 5, 2) := by decide +kernel
theorem d_C_fillRule_87 : decode c_C_fillRule 87 = .ok (.lload 6, 2) := by decide +kernel
theorem d_C_fillRule_89 : decode c_C_fillRule 89 = .ok (.aload_n 0, 1) := by decide +kernel
theorem d_C_fillRule_90 : decode c_C_fillRule 90 = .ok (.getfield 100, 3) := by decide +kernel
theorem d_C_fillRule_93 : decode c_C_fillRule 93 = .ok (.lor, 1) := by decide +kernel
theorem d_C_fillRule_94 : decode c_C_fillRule 94 = .ok (.lstore 6, 2) := by decide +kernel
theorem d_C_fillRule_96 : decode c_C_fillRule 96 = .ok (.iinc 8 1, 3) := by decide +kernel
theorem d_C_fillRule_99 : decode c_C_fillRule 99 = .ok (.goto (-88), 3) := by decide +kernel
theorem d_C_fillRule_102 : decode c_C_fillRule 102 = .ok (.aload_n 0, 1) := by decide +kernel
theorem d_C_fillRule_103 : decode c_C_fillRule 103 = .ok (.getfield 22, 3) := by decide +kernel
theorem d_C_fillRule_106 : decode c_C_fillRule 106 = .ok (.iload_n 1, 1) := by decide +kernel
theorem d_C_fillRule_107 : decode c_C_fillRule 107 = .ok (.iload_n 2, 1) := by decide +kernel
theorem d_C_fillRule_108 : decode c_C_fillRule 108 = .ok (.invokestatic 66, 3) := by decide +kernel
theorem d_C_fillRule_111 : decode c_C_fillRule 111 = .ok (.lload_n 3, 1) := by decide +kernel
theorem d_C_fillRule_112 : decode c_C_fillRule 112 = .ok (.lastore, 1) := by decide +kernel
theorem d_C_fillRule_113 : decode c_C_fillRule 113 = .ok (.aload_n 0, 1) := by decide +kernel
theorem d_C_fillRule_114 : decode c_C_fillRule 114 = .ok (.getfield 25, 3) := by decide +kernel
theorem d_C_fillRule_117 : decode c_C_fillRule 117 = .ok (.iload_n 1, 1) := by decide +kernel
theorem d_C_fillRule_118 : decode c_C_fillRule 118 = .ok (.iload_n 2, 1) := by decide +kernel
theorem d_C_fillRule_119 : decode c_C_fillRule 119 = .ok (.invokestatic 66, 3) := by decide +kernel
theorem d_C_fillRule_122 : decode c_C_fillRule 122 = .ok (.iload 5, 2) := by decide +kernel
theorem d_C_fillRule_124 : decode c_C_fillRule 124 = .ok (.iastore, 1) := by decide +kernel
theorem d_C_fillRule_125 : decode c_C_fillRule 125 = .ok (.aload_n 0, 1) := by decide +kernel
theorem d_C_fillRule_126 : decode c_C_fillRule 126 = .ok (.getfield 28, 3) := by decide +kernel
theorem d_C_fillRule_129 : decode c_C_fillRule 129 = .ok (.iload_n 1, 1) := by decide +kernel
theorem d_C_fillRule_130 : decode c_C_fillRule 130 = .ok (.iload_n 2, 1) := by decide +kernel
theorem d_C_fillRule_131 : decode c_C_fillRule 131 = .ok (.invokestatic 66, 3) := by decide +kernel
theorem d_C_fillRule_134 : decode c_C_fillRule 134 = .ok (.lload 6, 2) := by decide +kernel
theorem d_C_fillRule_136 : decode c_C_fillRule 136 = .ok (.lastore, 1) := by decide +kernel
theorem d_C_fillRule_137 : decode c_C_fillRule 137 = .ok (.return_, 1) := by decide +kernel
theorem d_C_readRow_0 : decode c_C_readRow 0 = .ok (.aload_n 0, 1) := by decide +kernel
theorem d_C_readRow_1 : decode c_C_readRow 1 = .ok (.lconst 1, 1) := by decide +kernel
theorem d_C_readRow_2 : decode c_C_readRow 2 = .ok (.iload_n 2, 1) := by decide +kernel
theorem d_C_readRow_3 : decode c_C_readRow 3 = .ok (.lshl, 1) := by decide +kernel
theorem d_C_readRow_4 : decode c_C_readRow 4 = .ok (.putfield 88, 3) := by decide +kernel
theorem d_C_readRow_7 : decode c_C_readRow 7 = .ok (.aload_n 0, 1) := by decide +kernel
theorem d_C_readRow_8 : decode c_C_readRow 8 = .ok (.iload_n 2, 1) := by decide +kernel
theorem d_C_readRow_9 : decode c_C_readRow 9 = .ok (.putfield 92, 3) := by decide +kernel
theorem d_C_readRow_12 : decode c_C_readRow 12 = .ok (.aload_n 0, 1) := by decide +kernel
theorem d_C_readRow_13 : decode c_C_readRow 13 = .ok (.lconst 0, 1) := by decide +kernel
theorem d_C_readRow_14 : decode c_C_readRow 14 = .ok (.putfield 100, 3) := by decide +kernel
theorem d_C_readRow_17 : decode c_C_readRow 17 = .ok (.iconst 0, 1) := by decide +kernel
theorem d_C_readRow_18 : decode c_C_readRow 18 = .ok (.istore_n 3, 1) := by decide +kernel
theorem d_C_readRow_19 : decode c_C_readRow 19 = .ok (.iload_n 3, 1) := by decide +kernel
theorem d_C_readRow_20 : decode c_C_readRow 20 = .ok (.aload_n 0, 1) := by decide +kernel
theorem d_C_readRow_21 : decode c_C_readRow 21 = .ok (.getfield 31, 3) := by decide +kernel
theorem d_C_readRow_24 : decode c_C_readRow 24 = .ok (.iload_n 1, 1) := by decide +kernel
theorem d_C_readRow_25 : decode c_C_readRow 25 = .ok (.invokevirtual 103, 3) := by decide +kernel
theorem d_C_readRow_28 : decode c_C_readRow 28 = .ok (.if_icmp .ge 56, 3) := by decide +kernel
theorem d_C_readRow_31 : decode c_C_readRow 31 = .ok (.aload_n 0, 1) := by decide +kernel
theorem d_C_readRow_32 : decode c_C_readRow 32 = .ok (.getfield 88, 3) := by decide +kernel
theorem d_C_readRow_35 : decode c_C_readRow 35 = .ok (.lconst 0, 1) := by decide +kernel
theorem d_C_readRow_36 : decode c_C_readRow 36 = .ok (.lcmp, 1) := by decide +kernel
theorem d_C_readRow_37 : decode c_C_readRow 37 = .ok (.ifCond .eq 47, 3) := by decide +kernel
theorem d_C_readRow_40 : decode c_C_readRow 40 = .ok (.aload_n 0, 1) := by decide +kernel
theorem d_C_readRow_41 : decode c_C_readRow 41 = .ok (.getfield 31, 3) := by decide +kernel
theorem d_C_readRow_44 : decode c_C_readRow 44 = .ok (.iload_n 1, 1) := by decide +kernel
theorem d_C_readRow_45 : decode c_C_readRow 45 = .ok (.iload_n 3, 1) := by decide +kernel
theorem d_C_readRow_46 : decode c_C_readRow 46 = .ok (.invokevirtual 106, 3) := by decide +kernel
theorem d_C_readRow_49 : decode c_C_readRow 49 = .ok (.istore 4, 2) := by decide +kernel
theorem d_C_readRow_51 : decode c_C_readRow 51 = .ok (.iload 4, 2) := by decide +kernel
theorem d_C_readRow_53 : decode c_C_readRow 53 = .ok (.invokestatic 109, 3) := by decide +kernel
theorem d_C_readRow_56 : decode c_C_readRow 56 = .ok (.ifCond .eq 12, 3) := by decide +kernel
theorem d_C_readRow_59 : decode c_C_readRow 59 = .ok (.aload_n 0, 1) := by decide +kernel
theorem d_C_readRow_60 : decode c_C_readRow 60 = .ok (.iload 4, 2) := by decide +kernel
theorem d_C_readRow_62 : decode c_C_readRow 62 = .ok (.invokevirtual 113, 3) := by decide +kernel
theorem d_C_readRow_65 : decode c_C_readRow 65 = .ok (.goto 13, 3) := by decide +kernel
theorem d_C_readRow_68 : decode c_C_readRow 68 = .ok (.aload_n 0, 1) := by decide +kernel
theorem d_C_readRow_69 : decode c_C_readRow 69 = .ok (.iload 4, 2) := by decide +kernel
theorem d_C_readRow_71 : decode c_C_readRow 71 = .ok (.invokestatic 117, 3) := by decide +kernel
theorem d_C_readRow_74 : decode c_C_readRow 74 = .ok (.iload_n 2, 1) := by decide +kernel
theorem d_C_readRow_75 : decode c_C_readRow 75 = .ok (.invokevirtual 120, 3) := by decide +kernel
theorem d_C_readRow_78 : decode c_C_readRow 78 = .ok (.iinc 3 1, 3) := by decide +kernel
theorem d_C_readRow_81 : decode c_C_readRow 81 = .ok (.goto (-62), 3) := by decide +kernel
theorem d_C_readRow_84 : decode c_C_readRow 84 = .ok (.return_, 1) := by decide +kernel
theorem d_C_readToken_0 : decode c_C_readToken 0 = .ok (.aload_n 0, 1) := by decide +kernel
theorem d_C_readToken_1 : decode c_C_readToken 1 = .ok (.getfield 88, 3) := by decide +kernel
theorem d_C_readToken_4 : decode c_C_readToken 4 = .ok (.aload_n 0, 1) := by decide +kernel
theorem d_C_readToken_5 : decode c_C_readToken 5 = .ok (.getfield 43, 3) := by decide +kernel
theorem d_C_readToken_8 : decode c_C_readToken 8 = .ok (.invokestatic 70, 3) := by decide +kernel
theorem d_C_readToken_11 : decode c_C_readToken 11 = .ok (.ifCond .eq 15, 3) := by decide +kernel
theorem d_C_readToken_14 : decode c_C_readToken 14 = .ok (.aload_n 0, 1) := by decide +kernel
theorem d_C_readToken_15 : decode c_C_readToken 15 = .ok (.dup, 1) := by decide +kernel
theorem d_C_readToken_16 : decode c_C_readToken 16 = .ok (.getfield 100, 3) := by decide +kernel
theorem d_C_readToken_19 : decode c_C_readToken 19 = .ok (.lconst 1, 1) := by decide +kernel
theorem d_C_readToken_20 : decode c_C_readToken 20 = .ok (.iload_n 1, 1) := by decide +kernel
theorem d_C_readToken_21 : decode c_C_readToken 21 = .ok (.lshl, 1) := by decide +kernel
theorem d_C_readToken_22 : decode c_C_readToken 22 = .ok (.lor, 1) := by decide +kernel
theorem d_C_readToken_23 : decode c_C_readToken 23 = .ok (.putfield 100, 3) := by decide +kernel
theorem d_C_readToken_26 : decode c_C_readToken 26 = .ok (.aload_n 0, 1) := by decide +kernel
theorem d_C_readToken_27 : decode c_C_readToken 27 = .ok (.aload_n 0, 1) := by decide +kernel
theorem d_C_readToken_28 : decode c_C_readToken 28 = .ok (.getfield 88, 3) := by decide +kernel
theorem d_C_readToken_31 : decode c_C_readToken 31 = .ok (.aload_n 0, 1) := by decide +kernel
theorem d_C_readToken_32 : decode c_C_readToken 32 = .ok (.getfield 9, 3) := by decide +kernel
theorem d_C_readToken_35 : decode c_C_readToken 35 = .ok (.iload_n 1, 1) := by decide +kernel
theorem d_C_readToken_36 : decode c_C_readToken 36 = .ok (.laload, 1) := by decide +kernel
theorem d_C_readToken_37 : decode c_C_readToken 37 = .ok (.land, 1) := by decide +kernel
theorem d_C_readToken_38 : decode c_C_readToken 38 = .ok (.iconst 1, 1) := by decide +kernel
theorem d_C_readToken_39 : decode c_C_readToken 39 = .ok (.lshl, 1) := by decide +kernel
theorem d_C_readToken_40 : decode c_C_readToken 40 = .ok (.putfield 88, 3) := by decide +kernel
theorem d_C_readToken_43 : decode c_C_readToken 43 = .ok (.aload_n 0, 1) := by decide +kernel
theorem d_C_readToken_44 : decode c_C_readToken 44 = .ok (.getfield 92, 3) := by decide +kernel
theorem d_C_readToken_47 : decode c_C_readToken 47 = .ok (.iconst 1, 1) := by decide +kernel
theorem d_C_readToken_48 : decode c_C_readToken 48 = .ok (.iadd, 1) := by decide +kernel
theorem d_C_readToken_49 : decode c_C_readToken 49 = .ok (.istore_n 2, 1) := by decide +kernel
theorem d_C_readToken_50 : decode c_C_readToken 50 = .ok (.iload_n 2, 1) := by decide +kernel
theorem d_C_readToken_51 : decode c_C_readToken 51 = .ok (.aload_n 0, 1) := by decide +kernel
theorem d_C_readToken_52 : decode c_C_readToken 52 = .ok (.getfield 43, 3) := by decide +kernel
theorem d_C_readToken_55 : decode c_C_readToken 55 = .ok (.if_icmp .gt 25, 3) := by decide +kernel
theorem d_C_readToken_58 : decode c_C_readToken 58 = .ok (.aload_n 0, 1) := by decide +kernel
theorem d_C_readToken_59 : decode c_C_readToken 59 = .ok (.getfield 88, 3) := by decide +kernel
theorem d_C_readToken_62 : decode c_C_readToken 62 = .ok (.iload_n 2, 1) := by decide +kernel
theorem d_C_readToken_63 : decode c_C_readToken 63 = .ok (.lushr, 1) := by decide +kernel
theorem d_C_readToken_64 : decode c_C_readToken 64 = .ok (.lconst 0, 1) := by decide +kernel
theorem d_C_readToken_65 : decode c_C_readToken 65 = .ok (.lcmp, 1) := by decide +kernel
theorem d_C_readToken_66 : decode c_C_readToken 66 = .ok (.ifCond .eq 14, 3) := by decide +kernel
theorem d_C_readToken_69 : decode c_C_readToken 69 = .ok (.aload_n 0, 1) := by decide +kernel
theorem d_C_readToken_70 : decode c_C_readToken 70 = .ok (.iload_n 2, 1) := by decide +kernel
theorem d_C_readToken_71 : decode c_C_readToken 71 = .ok (.putfield 92, 3) := by decide +kernel
theorem d_C_readToken_74 : decode c_C_readToken 74 = .ok (.iinc 2 1, 3) := by decide +kernel
theorem d_C_readToken_77 : decode c_C_readToken 77 = .ok (.goto (-27), 3) := by decide +kernel
theorem d_C_readToken_80 : decode c_C_readToken 80 = .ok (.return_, 1) := by decide +kernel
theorem d_C_readRule_0 : decode c_C_readRule 0 = .ok (.lconst 0, 1) := by decide +kernel
theorem d_C_readRule_1 : decode c_C_readRule 1 = .ok (.lstore_n 3, 1) := by decide +kernel
theorem d_C_readRule_2 : decode c_C_readRule 2 = .ok (.iload_n 2, 1) := by decide +kernel
theorem d_C_readRule_3 : decode c_C_readRule 3 = .ok (.istore 5, 2) := by decide +kernel
theorem d_C_readRule_5 : decode c_C_readRule 5 = .ok (.iload 5, 2) := by decide +kernel
theorem d_C_readRule_7 : decode c_C_readRule 7 = .ok (.aload_n 0, 1) := by decide +kernel
theorem d_C_readRule_8 : decode c_C_readRule 8 = .ok (.getfield 43, 3) := by decide +kernel
theorem d_C_readRule_11 : decode c_C_readRule 11 = .ok (.if_icmp .gt 85, 3) := by decide +kernel
theorem d_C_readRule_14 : decode c_C_readRule 14 = .ok (.aload_n 0, 1) := by decide +kernel
theorem d_C_readRule_15 : decode c_C_readRule 15 = .ok (.getfield 88, 3) := by decide +kernel
theorem d_C_readRule_18 : decode c_C_readRule 18 = .ok (.iload 5, 2) := by decide +kernel
theorem d_C_readRule_20 : decode c_C_readRule 20 = .ok (.lushr, 1) := by decide +kernel
theorem d_C_readRule_21 : decode c_C_readRule 21 = .ok (.lconst 0, 1) := by decide +kernel
theorem d_C_readRule_22 : decode c_C_readRule 22 = .ok (.lcmp, 1) := by decide +kernel
theorem d_C_readRule_23 : decode c_C_readRule 23 = .ok (.ifCond .eq 73, 3) := by decide +kernel
theorem d_C_readRule_26 : decode c_C_readRule 26 = .ok (.aload_n 0, 1) := by decide +kernel
theorem d_C_readRule_27 : decode c_C_readRule 27 = .ok (.getfield 88, 3) := by decide +kernel
theorem d_C_readRule_30 : decode c_C_readRule 30 = .ok (.iload 5, 2) := by decide +kernel
theorem d_C_readRule_32 : decode c_C_readRule 32 = .ok (.invokestatic 70, 3) := by decide +kernel
theorem d_C_readRule_35 : decode c_C_readRule 35 = .ok (.ifCond .eq 55, 3) := by decide +kernel
theorem d_C_readRule_38 : decode c_C_readRule 38 = .ok (.iload_n 1, 1) := by decide +kernel
theorem d_C_readRule_39 : decode c_C_readRule 39 = .ok (.iload 5, 2) := by decide +kernel
theorem d_C_readRule_41 : decode c_C_readRule 41 = .ok (.invokestatic 66, 3) := by decide +kernel
theorem d_C_readRule_44 : decode c_C_readRule 44 = .ok (.istore 6, 2) := by decide +kernel
theorem d_C_readRule_46 : decode c_C_readRule 46 = .ok (.lload_n 3, 1) := by decide +kernel
theorem d_C_readRule_47 : decode c_C_readRule 47 = .ok (.aload_n 0, 1) := by decide +kernel
theorem d_C_readRule_48 : decode c_C_readRule 48 = .ok (.getfield 22, 3) := by decide +kernel
theorem d_C_readRule_51 : decode c_C_readRule 51 = .ok (.iload 6, 2) := by decide +kernel
theorem d_C_readRule_53 : decode c_C_readRule 53 = .ok (.laload, 1) := by decide +kernel
theorem d_C_readRule_54 : decode c_C_readRule 54 = .ok (.lor, 1) := by decide +kernel
theorem d_C_readRule_55 : decode c_C_readRule 55 = .ok (.lstore_n 3, 1) := by decide +kernel
theorem d_C_readRule_56 : decode c_C_readRule 56 = .ok (.aload_n 0, 1) := by decide +kernel
theorem d_C_readRule_57 : decode c_C_readRule 57 = .ok (.aload_n 0, 1) := by decide +kernel
theorem d_C_readRule_58 : decode c_C_readRule 58 = .ok (.getfield 92, 3) := by decide +kernel
theorem d_C_readRule_61 : decode c_C_readRule 61 = .ok (.aload_n 0, 1) := by decide +kernel
theorem d_C_readRule_62 : decode c_C_readRule 62 = .ok (.getfield 25, 3) := by decide +kernel
theorem d_C_readRule_65 : decode c_C_readRule 65 = .ok (.iload 6, 2) := by decide +kernel
theorem d_C_readRule_67 : decode c_C_readRule 67 = .ok (.iaload, 1) := by decide +kernel
theorem d_C_readRule_68 : decode c_C_readRule 68 = .ok (.invokestatic 95, 3) := by decide +kernel
theorem d_C_readRule_71 : decode c_C_readRule 71 = .ok (.putfield 92, 3) := by decide +kernel
theorem d_C_readRule_74 : decode c_C_readRule 74 = .ok (.aload_n 0, 1) := by decide +kernel
theorem d_C_readRule_75 : decode c_C_readRule 75 = .ok (.dup, 1) := by decide +kernel
theorem d_C_readRule_76 : decode c_C_readRule 76 = .ok (.getfield 100, 3) := by decide +kernel
theorem d_C_readRule_79 : decode c_C_readRule 79 = .ok (.aload_n 0, 1) := by decide +kernel
theorem d_C_readRule_80 : decode c_C_readRule 80 = .ok (.getfield 28, 3) := by decide +kernel
theorem d_C_readRule_83 : decode c_C_readRule 83 = .ok (.iload 6, 2) := by decide +kernel
theorem d_C_readRule_85 : decode c_C_readRule 85 = .ok (.laload, 1) := by decide +kernel
theorem d_C_readRule_86 : decode c_C_readRule 86 = .ok (.lor, 1) := by decide +kernel
theorem d_C_readRule_87 : decode c_C_readRule 87 = .ok (.putfield 100, 3) := by decide +kernel
theorem d_C_readRule_90 : decode c_C_readRule 90 = .ok (.iinc 5 1, 3) := by decide +kernel
theorem d_C_readRule_93 : decode c_C_readRule 93 = .ok (.goto (-88), 3) := by decide +kernel
theorem d_C_readRule_96 : decode c_C_readRule 96 = .ok (.aload_n 0, 1) := by decide +kernel
theorem d_C_readRule_97 : decode c_C_readRule 97 = .ok (.lload_n 3, 1) := by decide +kernel
theorem d_C_readRule_98 : decode c_C_readRule 98 = .ok (.putfield 88, 3) := by decide +kernel
theorem d_C_readRule_101 : decode c_C_readRule 101 = .ok (.return_, 1) := by decide +kernel
theorem d_K_init_0 : decode c_K_init 0 = .ok (.aload_n 0, 1) := by decide +kernel
theorem d_K_init_1 : decode c_K_init 1 = .ok (.invokespecial 3, 3) := by decide +kernel
theorem d_K_init_4 : decode c_K_init 4 = .ok (.aload_n 0, 1) := by decide +kernel
theorem d_K_init_5 : decode c_K_init 5 = .ok (.sipush 2061, 3) := by decide +kernel
theorem d_K_init_8 : decode c_K_init 8 = .ok (.anewarray 11, 3) := by decide +kernel
theorem d_K_init_11 : decode c_K_init 11 = .ok (.putfield 13, 3) := by decide +kernel
theorem d_K_init_14 : decode c_K_init 14 = .ok (.aload_n 0, 1) := by decide +kernel
theorem d_K_init_15 : decode c_K_init 15 = .ok (.aload_n 1, 1) := by decide +kernel
theorem d_K_init_16 : decode c_K_init 16 = .ok (.putfield 17, 3) := by decide +kernel
theorem d_K_init_19 : decode c_K_init 19 = .ok (.aload_n 0, 1) := by decide +kernel
theorem d_K_init_20 : decode c_K_init 20 = .ok (.aload_n 2, 1) := by decide +kernel
theorem d_K_init_21 : decode c_K_init 21 = .ok (.putfield 21, 3) := by decide +kernel
theorem d_K_init_24 : decode c_K_init 24 = .ok (.aload_n 0, 1) := by decide +kernel
theorem d_K_init_25 : decode c_K_init 25 = .ok (.aload_n 3, 1) := by decide +kernel
theorem d_K_init_26 : decode c_K_init 26 = .ok (.putfield 25, 3) := by decide +kernel
theorem d_K_init_29 : decode c_K_init 29 = .ok (.return_, 1) := by decide +kernel
theorem d_K_derive_0 : decode c_K_derive 0 = .ok (.aload_n 1, 1) := by decide +kernel
theorem d_K_derive_1 : decode c_K_derive 1 = .ok (.invokevirtual 29, 3) := by decide +kernel
theorem d_K_derive_4 : decode c_K_derive 4 = .ok (.aload_n 0, 1) := by decide +kernel
theorem d_K_derive_5 : decode c_K_derive 5 = .ok (.iconst 0, 1) := by decide +kernel
theorem d_K_derive_6 : decode c_K_derive 6 = .ok (.putfield 34, 3) := by decide +kernel
theorem d_K_derive_9 : decode c_K_derive 9 = .ok (.aload_n 0, 1) := by decide +kernel
theorem d_K_derive_10 : decode c_K_derive 10 = .ok (.iconst 1, 1) := by decide +kernel
theorem d_K_derive_11 : decode c_K_derive 11 = .ok (.putfield 38, 3) := by decide +kernel
theorem d_K_derive_14 : decode c_K_derive 14 = .ok (.aload_n 0, 1) := by decide +kernel
theorem d_K_derive_15 : decode c_K_derive 15 = .ok (.invokevirtual 41, 3) := by decide +kernel
theorem d_K_derive_18 : decode c_K_derive 18 = .ok (.aload_n 0, 1) := by decide +kernel
theorem d_K_derive_19 : decode c_K_derive 19 = .ok (.iconst (-1), 1) := by decide +kernel
theorem d_K_derive_20 : decode c_K_derive 20 = .ok (.iconst (-1), 1) := by decide +kernel
theorem d_K_derive_21 : decode c_K_derive 21 = .ok (.invokevirtual 44, 3) := by decide +kernel
theorem d_K_derive_24 : decode c_K_derive 24 = .ok (.iconst 0, 1) := by decide +kernel
theorem d_K_derive_25 : decode c_K_derive 25 = .ok (.istore_n 2, 1) := by decide +kernel
theorem d_K_derive_26 : decode c_K_derive 26 = .ok (.iload_n 2, 1) := by decide +kernel
theorem d_K_derive_27 : decode c_K_derive 27 = .ok (.sipush 2060, 3) := by decide +kernel
theorem d_K_derive_30 : decode c_K_derive 30 = .ok (.if_icmp .ge 80, 3) := by decide +kernel
theorem d_K_derive_33 : decode c_K_derive 33 = .ok (.aload_n 0, 1) := by decide +kernel
theorem d_K_derive_34 : decode c_K_derive 34 = .ok (.getfield 48, 3) := by decide +kernel
theorem d_K_derive_37 : decode c_K_derive 37 = .ok (.ifCond .le 73, 3) := by decide +kernel
theorem d_K_derive_40 : decode c_K_derive 40 = .ok (.aload_n 0, 1) := by decide +kernel
theorem d_K_derive_41 : decode c_K_derive 41 = .ok (.getfield 13, 3) := by decide +kernel
theorem d_K_derive_44 : decode c_K_derive 44 = .ok (.aload_n 0, 1) := by decide +kernel
theorem d_K_derive_45 : decode c_K_derive 45 = .ok (.getfield 48, 3) := by decide +kernel
theorem d_K_derive_48 : decode c_K_derive 48 = .ok (.aaload, 1) := by decide +kernel
theorem d_K_derive_49 : decode c_K_derive 49 = .ok (.astore_n 3, 1) := by decide +kernel
theorem d_K_derive_50 : decode c_K_derive 50 = .ok (.aload_n 0, 1) := by decide +kernel
theorem d_K_derive_51 : decode c_K_derive 51 = .ok (.dup, 1) := by decide +kernel
theorem d_K_derive_52 : decode c_K_derive 52 = .ok (.getfield 48, 3) := by decide +kernel
theorem d_K_derive_55 : decode c_K_derive 55 = .ok (.iconst 1, 1) := by decide +kernel
theorem d_K_derive_56 : decode c_K_derive 56 = .ok (.isub, 1) := by decide +kernel
theorem d_K_derive_57 : decode c_K_derive 57 = .ok (.putfield 48, 3) := by decide +kernel
theorem d_K_derive_60 : decode c_K_derive 60 = .ok (.aload_n 3, 1) := by decide +kernel
theorem d_K_derive_61 : decode c_K_derive 61 = .ok (.getfield 51, 3) := by decide +kernel
theorem d_K_derive_64 : decode c_K_derive 64 = .ok (.invokestatic 54, 3) := by decide +kernel
theorem d_K_derive_67 : decode c_K_derive 67 = .ok (.ifCond .eq 16, 3) := by decide +kernel
theorem d_K_derive_70 : decode c_K_derive 70 = .ok (.aload_n 0, 1) := by decide +kernel
theorem d_K_derive_71 : decode c_K_derive 71 = .ok (.dup, 1) := by decide +kernel
theorem d_K_derive_72 : decode c_K_derive 72 = .ok (.getfield 34, 3) := by decide +kernel
theorem d_K_derive_75 : decode c_K_derive 75 = .ok (.iconst 1, 1) := by decide +kernel
theorem d_K_derive_76 : decode c_K_derive 76 = .ok (.iadd, 1) := by decide +kernel
theorem d_K_derive_77 : decode c_K_derive 77 = .ok (.putfield 34, 3) := by decide +kernel
theorem d_K_derive_80 : decode c_K_derive 80 = .ok (.goto 24, 3) := by decide +kernel
theorem d_K_derive_83 : decode c_K_derive 83 = .ok (.aload_n 0, 1) := by decide +kernel
theorem d_K_derive_84 : decode c_K_derive 84 = .ok (.aload_n 3, 1) := by decide +kernel
theorem d_K_derive_85 : decode c_K_derive 85 = .ok (.getfield 51, 3) := by decide +kernel
theorem d_K_derive_88 : decode c_K_derive 88 = .ok (.invokestatic 60, 3) := by decide +kernel
theorem d_K_derive_91 : decode c_K_derive 91 = .ok (.aload_n 3, 1) := by decide +kernel
theorem d_K_derive_92 : decode c_K_derive 92 = .ok (.getfield 64, 3) := by decide +kernel
theorem d_K_derive_95 : decode c_K_derive 95 = .ok (.aload_n 1, 1) := by decide +kernel
theorem d_K_derive_96 : decode c_K_derive 96 = .ok (.invokevirtual 67, 3) := by decide +kernel
theorem d_K_derive_99 : decode c_K_derive 99 = .ok (.ifCond .ne 5, 3) := by decide +kernel
theorem d_K_derive_102 : decode c_K_derive 102 = .ok (.iconst 0, 1) := by decide +kernel
theorem d_K_derive_103 : decode c_K_derive 103 = .ok (.ireturn, 1) := by decide +kernel
theorem d_K_derive_104 : decode c_K_derive 104 = .ok (.iinc 2 1, 3) := by decide +kernel
theorem d_K_derive_107 : decode c_K_derive 107 = .ok (.goto (-81), 3) := by decide +kernel
theorem d_K_derive_110 : decode c_K_derive 110 = .ok (.aload_n 1, 1) := by decide +kernel
theorem d_K_derive_111 : decode c_K_derive 111 = .ok (.invokevirtual 71, 3) := by decide +kernel
theorem d_K_derive_114 : decode c_K_derive 114 = .ok (.iconst 1, 1) := by decide +kernel
theorem d_K_derive_115 : decode c_K_derive 115 = .ok (.ireturn, 1) := by decide +kernel
theorem d_K_replace_0 : decode c_K_replace 0 = .ok (.aload_n 0, 1) := by decide +kernel
theorem d_K_replace_1 : decode c_K_replace 1 = .ok (.iload_n 1, 1) := by decide +kernel
theorem d_K_replace_2 : decode c_K_replace 2 = .ok (.invokevirtual 74, 3) := by decide +kernel
theorem d_K_replace_5 : decode c_K_replace 5 = .ok (.istore 4, 2) := by decide +kernel
theorem d_K_replace_7 : decode c_K_replace 7 = .ok (.iload_n 1, 1) := by decide +kernel
theorem d_K_replace_8 : decode c_K_replace 8 = .ok (.iload 4, 2) := by decide +kernel
theorem d_K_replace_10 : decode c_K_replace 10 = .ok (.invokestatic 77, 3) := by decide +kernel
theorem d_K_replace_13 : decode c_K_replace 13 = .ok (.istore 5, 2) := by decide +kernel
theorem d_K_replace_15 : decode c_K_replace 15 = .ok (.aload_n 0, 1) := by decide +kernel
theorem d_K_replace_16 : decode c_K_replace 16 = .ok (.getfield 17, 3) := by decide +kernel
theorem d_K_replace_19 : decode c_K_replace 19 = .ok (.iload 5, 2) := by decide +kernel
theorem d_K_replace_21 : decode c_K_replace 21 = .ok (.invokevirtual 81, 3) := by decide +kernel
theorem d_K_replace_24 : decode c_K_replace 24 = .ok (.istore 6, 2) := by decide +kernel
theorem d_K_replace_26 : decode c_K_replace 26 = .ok (.aload_n 0, 1) := by decide +kernel
theorem d_K_replace_27 : decode c_K_replace 27 = .ok (.dup, 1) := by decide +kernel
theorem d_K_replace_28 : decode c_K_replace 28 = .ok (.getfield 38, 3) := by decide +kernel
theorem d_K_replace_31 : decode c_K_replace 31 = .ok (.iload 6, 2) := by decide +kernel
theorem d_K_replace_33 : decode c_K_replace 33 = .ok (.iadd, 1) := by decide +kernel
theorem d_K_replace_34 : decode c_K_replace 34 = .ok (.putfield 38, 3) := by decide +kernel
theorem d_K_replace_37 : decode c_K_replace 37 = .ok (.aload_n 0, 1) := by decide +kernel
theorem d_K_replace_38 : decode c_K_replace 38 = .ok (.getfield 38, 3) := by decide +kernel
theorem d_K_replace_41 : decode c_K_replace 41 = .ok (.sipush 2000, 3) := by decide +kernel
theorem d_K_replace_44 : decode c_K_replace 44 = .ok (.if_icmp .le 5, 3) := by decide +kernel
theorem d_K_replace_47 : decode c_K_replace 47 = .ok (.iconst 0, 1) := by decide +kernel
theorem d_K_replace_48 : decode c_K_replace 48 = .ok (.ireturn, 1) := by decide +kernel
theorem d_K_replace_49 : decode c_K_replace 49 = .ok (.aload_n 3, 1) := by decide +kernel
theorem d_K_replace_50 : decode c_K_replace 50 = .ok (.iload_n 2, 1) := by decide +kernel
theorem d_K_replace_51 : decode c_K_replace 51 = .ok (.iload 6, 2) := by decide +kernel
theorem d_K_replace_53 : decode c_K_replace 53 = .ok (.aload_n 0, 1) := by decide +kernel
theorem d_K_replace_54 : decode c_K_replace 54 = .ok (.getfield 17, 3) := by decide +kernel
theorem d_K_replace_57 : decode c_K_replace 57 = .ok (.iload 5, 2) := by decide +kernel
theorem d_K_replace_59 : decode c_K_replace 59 = .ok (.invokevirtual 84, 3) := by decide +kernel
theorem d_K_replace_62 : decode c_K_replace 62 = .ok (.iload 6, 2) := by decide +kernel
theorem d_K_replace_64 : decode c_K_replace 64 = .ok (.isub, 1) := by decide +kernel
theorem d_K_replace_65 : decode c_K_replace 65 = .ok (.invokevirtual 87, 3) := by decide +kernel
theorem d_K_replace_68 : decode c_K_replace 68 = .ok (.istore 7, 2) := by decide +kernel
theorem d_K_replace_70 : decode c_K_replace 70 = .ok (.aload_n 3, 1) := by decide +kernel
theorem d_K_replace_71 : decode c_K_replace 71 = .ok (.iload 7, 2) := by decide +kernel
theorem d_K_replace_73 : decode c_K_replace 73 = .ok (.iload_n 1, 1) := by decide +kernel
theorem d_K_replace_74 : decode c_K_replace 74 = .ok (.iload 4, 2) := by decide +kernel
theorem d_K_replace_76 : decode c_K_replace 76 = .ok (.aload_n 0, 1) := by decide +kernel
theorem d_K_replace_77 : decode c_K_replace 77 = .ok (.getfield 34, 3) := by decide +kernel
theorem d_K_replace_80 : decode c_K_replace 80 = .ok (.aload_n 0, 1) := by decide +kernel
theorem d_K_replace_81 : decode c_K_replace 81 = .ok (.iload_n 1, 1) := by decide +kernel
theorem d_K_replace_82 : decode c_K_replace 82 = .ok (.iload 4, 2) := by decide +kernel
theorem d_K_replace_84 : decode c_K_replace 84 = .ok (.invokevirtual 91, 3) := by decide +kernel
theorem d_K_replace_87 : decode c_K_replace 87 = .ok (.invokevirtual 94, 3) := by decide +kernel
theorem d_K_replace_90 : decode c_K_replace 90 = .ok (.aload_n 0, 1) := by decide +kernel
theorem d_K_replace_91 : decode c_K_replace 91 = .ok (.iload 5, 2) := by decide +kernel
theorem d_K_replace_93 : decode c_K_replace 93 = .ok (.iload 7, 2) := by decide +kernel
theorem d_K_replace_95 : decode c_K_replace 95 = .ok (.invokevirtual 98, 3) := by decide +kernel
theorem d_K_replace_98 : decode c_K_replace 98 = .ok (.iconst 1, 1) := by decide +kernel
theorem d_K_replace_99 : decode c_K_replace 99 = .ok (.ireturn, 1) := by decide +kernel
theorem d_K_firstFitting_0 : decode c_K_firstFitting 0 = .ok (.aload_n 0, 1) := by decide +kernel
theorem d_K_firstFitting_1 : decode c_K_firstFitting 1 = .ok (.getfield 17, 3) := by decide +kernel
theorem d_K_firstFitting_4 : decode c_K_firstFitting 4 = .ok (.iload_n 1, 1) := by decide +kernel
theorem d_K_firstFitting_5 : decode c_K_firstFitting 5 = .ok (.invokevirtual 101, 3) := by decide +kernel
theorem d_K_firstFitting_8 : decode c_K_firstFitting 8 = .ok (.iconst 1, 1) := by decide +kernel
theorem d_K_firstFitting_9 : decode c_K_firstFitting 9 = .ok (.isub, 1) := by decide +kernel
theorem d_K_firstFitting_10 : decode c_K_firstFitting 10 = .ok (.istore_n 2, 1) := by decide +kernel
theorem d_K_firstFitting_11 : decode c_K_firstFitting 11 = .ok (.iconst 0, 1) := by decide +kernel
theorem d_K_firstFitting_12 : decode c_K_firstFitting 12 = .ok (.istore_n 3, 1) := by decide +kernel
theorem d_K_firstFitting_13 : decode c_K_firstFitting 13 = .ok (.iload_n 3, 1) := by decide +kernel
theorem d_K_firstFitting_14 : decode c_K_firstFitting 14 = .ok (.iload_n 2, 1) := by decide +kernel
theorem d_K_firstFitting_15 : decode c_K_firstFitting 15 = .ok (.if_icmp .ge 30, 3) := by decide +kernel
theorem d_K_firstFitting_18 : decode c_K_firstFitting 18 = .ok (.aload_n 0, 1) := by decide +kernel
theorem d_K_firstFitting_19 : decode c_K_firstFitting 19 = .ok (.iload_n 1, 1) := by decide +kernel
theorem d_K_firstFitting_20 : decode c_K_firstFitting 20 = .ok (.iload_n 3, 1) := by decide +kernel
theorem d_K_firstFitting_21 : decode c_K_firstFitting 21 = .ok (.invokestatic 77, 3) := by decide +kernel
theorem d_K_firstFitting_24 : decode c_K_firstFitting 24 = .ok (.invokevirtual 104, 3) := by decide +kernel
theorem d_K_firstFitting_27 : decode c_K_firstFitting 27 = .ok (.aload_n 0, 1) := by decide +kernel
theorem d_K_firstFitting_28 : decode c_K_firstFitting 28 = .ok (.getfield 25, 3) := by decide +kernel
theorem d_K_firstFitting_31 : decode c_K_firstFitting 31 = .ok (.invokevirtual 107, 3) := by decide +kernel
theorem d_K_firstFitting_34 : decode c_K_firstFitting 34 = .ok (.if_icmp .le 5, 3) := by decide +kernel
theorem d_K_firstFitting_37 : decode c_K_firstFitting 37 = .ok (.iload_n 3, 1) := by decide +kernel
theorem d_K_firstFitting_38 : decode c_K_firstFitting 38 = .ok (.ireturn, 1) := by decide +kernel
theorem d_K_firstFitting_39 : decode c_K_firstFitting 39 = .ok (.iinc 3 1, 3) := by decide +kernel
theorem d_K_firstFitting_42 : decode c_K_firstFitting 42 = .ok (.goto (-29), 3) := by decide +kernel
theorem d_K_firstFitting_45 : decode c_K_firstFitting 45 = .ok (.iload_n 2, 1) := by decide +kernel
theorem d_K_firstFitting_46 : decode c_K_firstFitting 46 = .ok (.ireturn, 1) := by decide +kernel
theorem d_K_look_0 : decode c_K_look 0 = .ok (.aload_n 0, 1) := by decide +kernel
theorem d_K_look_1 : decode c_K_look 1 = .ok (.getfield 17, 3) := by decide +kernel
theorem d_K_look_4 : decode c_K_look 4 = .ok (.iload_n 1, 1) := by decide +kernel
theorem d_K_look_5 : decode c_K_look 5 = .ok (.invokevirtual 101, 3) := by decide +kernel
theorem d_K_look_8 : decode c_K_look 8 = .ok (.iconst 1, 1) := by decide +kernel
theorem d_K_look_9 : decode c_K_look 9 = .ok (.if_icmp .ne 5, 3) := by decide +kernel
theorem d_K_look_12 : decode c_K_look 12 = .ok (.iconst 0, 1) := by decide +kernel
theorem d_K_look_13 : decode c_K_look 13 = .ok (.ireturn, 1) := by decide +kernel
theorem d_K_look_14 : decode c_K_look 14 = .ok (.aload_n 0, 1) := by decide +kernel
theorem d_K_look_15 : decode c_K_look 15 = .ok (.getfield 34, 3) := by decide +kernel
theorem d_K_look_18 : decode c_K_look 18 = .ok (.istore_n 3, 1) := by decide +kernel
theorem d_K_look_19 : decode c_K_look 19 = .ok (.iconst 0, 1) := by decide +kernel
theorem d_K_look_20 : decode c_K_look 20 = .ok (.istore 4, 2) := by decide +kernel
theorem d_K_look_22 : decode c_K_look 22 = .ok (.iload 4, 2) := by decide +kernel
theorem d_K_look_24 : decode c_K_look 24 = .ok (.aload_n 0, 1) := by decide +kernel
theorem d_K_look_25 : decode c_K_look 25 = .ok (.getfield 17, 3) := by decide +kernel
theorem d_K_look_28 : decode c_K_look 28 = .ok (.iload_n 1, 1) := by decide +kernel
theorem d_K_look_29 : decode c_K_look 29 = .ok (.invokevirtual 101, 3) := by decide +kernel
theorem d_K_look_32 : decode c_K_look 32 = .ok (.if_icmp .ge 30, 3) := by decide +kernel
theorem d_K_look_35 : decode c_K_look 35 = .ok (.iload 4, 2) := by decide +kernel
theorem d_K_look_37 : decode c_K_look 37 = .ok (.iload_n 2, 1) := by decide +kernel
theorem d_K_look_38 : decode c_K_look 38 = .ok (.if_icmp .eq 18, 3) := by decide +kernel
theorem d_K_look_41 : decode c_K_look 41 = .ok (.iload_n 3, 1) := by decide +kernel
theorem d_K_look_42 : decode c_K_look 42 = .ok (.aload_n 0, 1) := by decide +kernel
theorem d_K_look_43 : decode c_K_look 43 = .ok (.iload_n 1, 1) := by decide +kernel
theorem d_K_look_44 : decode c_K_look 44 = .ok (.iload 4, 2) := by decide +kernel
theorem d_K_look_46 : decode c_K_look 46 = .ok (.invokestatic 77, 3) := by decide +kernel
theorem d_K_look_49 : decode c_K_look 49 = .ok (.invokevirtual 104, 3) := by decide +kernel
theorem d_K_look_52 : decode c_K_look 52 = .ok (.invokestatic 113, 3) := by decide +kernel
theorem d_K_look_55 : decode c_K_look 55 = .ok (.istore_n 3, 1) := by decide +kernel
theorem d_K_look_56 : decode c_K_look 56 = .ok (.iinc 4 1, 3) := by decide +kernel
theorem d_K_look_59 : decode c_K_look 59 = .ok (.goto (-37), 3) := by decide +kernel
theorem d_K_look_62 : decode c_K_look 62 = .ok (.iload_n 3, 1) := by decide +kernel
theorem d_K_look_63 : decode c_K_look 63 = .ok (.aload_n 0, 1) := by decide +kernel
theorem d_K_look_64 : decode c_K_look 64 = .ok (.getfield 25, 3) := by decide +kernel
theorem d_K_look_67 : decode c_K_look 67 = .ok (.invokevirtual 107, 3) := by decide +kernel
theorem d_K_look_70 : decode c_K_look 70 = .ok (.invokestatic 118, 3) := by decide +kernel
theorem d_K_look_73 : decode c_K_look 73 = .ok (.aload_n 0, 1) := by decide +kernel
theorem d_K_look_74 : decode c_K_look 74 = .ok (.getfield 34, 3) := by decide +kernel
theorem d_K_look_77 : decode c_K_look 77 = .ok (.isub, 1) := by decide +kernel
theorem d_K_look_78 : decode c_K_look 78 = .ok (.iconst 1, 1) := by decide +kernel
theorem d_K_look_79 : decode c_K_look 79 = .ok (.iadd, 1) := by decide +kernel
theorem d_K_look_80 : decode c_K_look 80 = .ok (.ireturn, 1) := by decide +kernel
theorem d_K_reachOfRow_0 : decode c_K_reachOfRow 0 = .ok (.aload_n 0, 1) := by decide +kernel
theorem d_K_reachOfRow_1 : decode c_K_reachOfRow 1 = .ok (.getfield 13, 3) := by decide +kernel
theorem d_K_reachOfRow_4 : decode c_K_reachOfRow 4 = .ok (.aload_n 0, 1) := by decide +kernel
theorem d_K_reachOfRow_5 : decode c_K_reachOfRow 5 = .ok (.getfield 48, 3) := by decide +kernel
theorem d_K_reachOfRow_8 : decode c_K_reachOfRow 8 = .ok (.aaload, 1) := by decide +kernel
theorem d_K_reachOfRow_9 : decode c_K_reachOfRow 9 = .ok (.getfield 121, 3) := by decide +kernel
theorem d_K_reachOfRow_12 : decode c_K_reachOfRow 12 = .ok (.astore_n 2, 1) := by decide +kernel
theorem d_K_reachOfRow_13 : decode c_K_reachOfRow 13 = .ok (.iload_n 1, 1) := by decide +kernel
theorem d_K_reachOfRow_14 : decode c_K_reachOfRow 14 = .ok (.aload_n 0, 1) := by decide +kernel
theorem d_K_reachOfRow_15 : decode c_K_reachOfRow 15 = .ok (.getfield 34, 3) := by decide +kernel
theorem d_K_reachOfRow_18 : decode c_K_reachOfRow 18 = .ok (.invokestatic 125, 3) := by decide +kernel
theorem d_K_reachOfRow_21 : decode c_K_reachOfRow 21 = .ok (.istore_n 3, 1) := by decide +kernel
theorem d_K_reachOfRow_22 : decode c_K_reachOfRow 22 = .ok (.aload_n 0, 1) := by decide +kernel
theorem d_K_reachOfRow_23 : decode c_K_reachOfRow 23 = .ok (.aload_n 0, 1) := by decide +kernel
theorem d_K_reachOfRow_24 : decode c_K_reachOfRow 24 = .ok (.getfield 25, 3) := by decide +kernel
theorem d_K_reachOfRow_27 : decode c_K_reachOfRow 27 = .ok (.iload_n 3, 1) := by decide +kernel
theorem d_K_reachOfRow_28 : decode c_K_reachOfRow 28 = .ok (.invokevirtual 128, 3) := by decide +kernel
theorem d_K_reachOfRow_31 : decode c_K_reachOfRow 31 = .ok (.aload_n 0, 1) := by decide +kernel
theorem d_K_reachOfRow_32 : decode c_K_reachOfRow 32 = .ok (.getfield 25, 3) := by decide +kernel
theorem d_K_reachOfRow_35 : decode c_K_reachOfRow 35 = .ok (.iload_n 3, 1) := by decide +kernel
theorem d_K_reachOfRow_36 : decode c_K_reachOfRow 36 = .ok (.invokevirtual 131, 3) := by decide +kernel
theorem d_K_reachOfRow_39 : decode c_K_reachOfRow 39 = .ok (.aload_n 0, 1) := by decide +kernel
theorem d_K_reachOfRow_40 : decode c_K_reachOfRow 40 = .ok (.getfield 34, 3) := by decide +kernel
theorem d_K_reachOfRow_43 : decode c_K_reachOfRow 43 = .ok (.aload_n 2, 1) := by decide +kernel
theorem d_K_reachOfRow_44 : decode c_K_reachOfRow 44 = .ok (.invokevirtual 135, 3) := by decide +kernel
theorem d_K_reachOfRow_47 : decode c_K_reachOfRow 47 = .ok (.ireturn, 1) := by decide +kernel
theorem d_K_farthest_0 : decode c_K_farthest 0 = .ok (.iload_n 1, 1) := by decide +kernel
theorem d_K_farthest_1 : decode c_K_farthest 1 = .ok (.istore 6, 2) := by decide +kernel
theorem d_K_farthest_3 : decode c_K_farthest 3 = .ok (.iload 4, 2) := by decide +kernel
theorem d_K_farthest_5 : decode c_K_farthest 5 = .ok (.istore 7, 2) := by decide +kernel
theorem d_K_farthest_7 : decode c_K_farthest 7 = .ok (.iload 7, 2) := by decide +kernel
theorem d_K_farthest_9 : decode c_K_farthest 9 = .ok (.aload_n 0, 1) := by decide +kernel
theorem d_K_farthest_10 : decode c_K_farthest 10 = .ok (.getfield 25, 3) := by decide +kernel
theorem d_K_farthest_13 : decode c_K_farthest 13 = .ok (.invokevirtual 107, 3) := by decide +kernel
theorem d_K_farthest_16 : decode c_K_farthest 16 = .ok (.if_icmp .gt 42, 3) := by decide +kernel
theorem d_K_farthest_19 : decode c_K_farthest 19 = .ok (.iload 6, 2) := by decide +kernel
theorem d_K_farthest_21 : decode c_K_farthest 21 = .ok (.aload_n 0, 1) := by decide +kernel
theorem d_K_farthest_22 : decode c_K_farthest 22 = .ok (.getfield 25, 3) := by decide +kernel
theorem d_K_farthest_25 : decode c_K_farthest 25 = .ok (.invokevirtual 107, 3) := by decide +kernel
theorem d_K_farthest_28 : decode c_K_farthest 28 = .ok (.if_icmp .gt 30, 3) := by decide +kernel
theorem d_K_farthest_31 : decode c_K_farthest 31 = .ok (.lload_n 2, 1) := by decide +kernel
theorem d_K_farthest_32 : decode c_K_farthest 32 = .ok (.iload 7, 2) := by decide +kernel
theorem d_K_farthest_34 : decode c_K_farthest 34 = .ok (.invokestatic 139, 3) := by decide +kernel
theorem d_K_farthest_37 : decode c_K_farthest 37 = .ok (.ifCond .eq 15, 3) := by decide +kernel
theorem d_K_farthest_40 : decode c_K_farthest 40 = .ok (.iload 6, 2) := by decide +kernel
theorem d_K_farthest_42 : decode c_K_farthest 42 = .ok (.aload 5, 2) := by decide +kernel
theorem d_K_farthest_44 : decode c_K_farthest 44 = .ok (.iload 7, 2) := by decide +kernel
theorem d_K_farthest_46 : decode c_K_farthest 46 = .ok (.iaload, 1) := by decide +kernel
theorem d_K_farthest_47 : decode c_K_farthest 47 = .ok (.invokestatic 113, 3) := by decide +kernel
theorem d_K_farthest_50 : decode c_K_farthest 50 = .ok (.istore 6, 2) := by decide +kernel
theorem d_K_farthest_52 : decode c_K_farthest 52 = .ok (.iinc 7 1, 3) := by decide +kernel
theorem d_K_farthest_55 : decode c_K_farthest 55 = .ok (.goto (-48), 3) := by decide +kernel
theorem d_K_farthest_58 : decode c_K_farthest 58 = .ok (.iload 6, 2) := by decide +kernel
theorem d_K_farthest_60 : decode c_K_farthest 60 = .ok (.ireturn, 1) := by decide +kernel
theorem d_K_layBottom_0 : decode c_K_layBottom 0 = .ok (.aload_n 0, 1) := by decide +kernel
theorem d_K_layBottom_1 : decode c_K_layBottom 1 = .ok (.iconst 0, 1) := by decide +kernel
theorem d_K_layBottom_2 : decode c_K_layBottom 2 = .ok (.putfield 48, 3) := by decide +kernel
theorem d_K_layBottom_5 : decode c_K_layBottom 5 = .ok (.aload_n 0, 1) := by decide +kernel
theorem d_K_layBottom_6 : decode c_K_layBottom 6 = .ok (.invokevirtual 143, 3) := by decide +kernel
theorem d_K_layBottom_9 : decode c_K_layBottom 9 = .ok (.aload_n 0, 1) := by decide +kernel
theorem d_K_layBottom_10 : decode c_K_layBottom 10 = .ok (.getfield 13, 3) := by decide +kernel
theorem d_K_layBottom_13 : decode c_K_layBottom 13 = .ok (.iconst 0, 1) := by decide +kernel
theorem d_K_layBottom_14 : decode c_K_layBottom 14 = .ok (.aaload, 1) := by decide +kernel
theorem d_K_layBottom_15 : decode c_K_layBottom 15 = .ok (.getfield 121, 3) := by decide +kernel
theorem d_K_layBottom_18 : decode c_K_layBottom 18 = .ok (.astore_n 1, 1) := by decide +kernel
theorem d_K_layBottom_19 : decode c_K_layBottom 19 = .ok (.iconst 0, 1) := by decide +kernel
theorem d_K_layBottom_20 : decode c_K_layBottom 20 = .ok (.istore_n 2, 1) := by decide +kernel
theorem d_K_layBottom_21 : decode c_K_layBottom 21 = .ok (.iload_n 2, 1) := by decide +kernel
theorem d_K_layBottom_22 : decode c_K_layBottom 22 = .ok (.aload_n 0, 1) := by decide +kernel
theorem d_K_layBottom_23 : decode c_K_layBottom 23 = .ok (.getfield 25, 3) := by decide +kernel
theorem d_K_layBottom_26 : decode c_K_layBottom 26 = .ok (.invokevirtual 107, 3) := by decide +kernel
theorem d_K_layBottom_29 : decode c_K_layBottom 29 = .ok (.if_icmp .ge 13, 3) := by decide +kernel
theorem d_K_layBottom_32 : decode c_K_layBottom 32 = .ok (.aload_n 1, 1) := by decide +kernel
theorem d_K_layBottom_33 : decode c_K_layBottom 33 = .ok (.iload_n 2, 1) := by decide +kernel
theorem d_K_layBottom_34 : decode c_K_layBottom 34 = .ok (.iload_n 2, 1) := by decide +kernel
theorem d_K_layBottom_35 : decode c_K_layBottom 35 = .ok (.iastore, 1) := by decide +kernel
theorem d_K_layBottom_36 : decode c_K_layBottom 36 = .ok (.iinc 2 1, 3) := by decide +kernel
theorem d_K_layBottom_39 : decode c_K_layBottom 39 = .ok (.goto (-18), 3) := by decide +kernel
theorem d_K_layBottom_42 : decode c_K_layBottom 42 = .ok (.aload_n 1, 1) := by decide +kernel
theorem d_K_layBottom_43 : decode c_K_layBottom 43 = .ok (.aload_n 0, 1) := by decide +kernel
theorem d_K_layBottom_44 : decode c_K_layBottom 44 = .ok (.getfield 25, 3) := by decide +kernel
theorem d_K_layBottom_47 : decode c_K_layBottom 47 = .ok (.invokevirtual 107, 3) := by decide +kernel
theorem d_K_layBottom_50 : decode c_K_layBottom 50 = .ok (.aload_n 0, 1) := by decide +kernel
theorem d_K_layBottom_51 : decode c_K_layBottom 51 = .ok (.getfield 25, 3) := by decide +kernel
theorem d_K_layBottom_54 : decode c_K_layBottom 54 = .ok (.invokevirtual 107, 3) := by decide +kernel
theorem d_K_layBottom_57 : decode c_K_layBottom 57 = .ok (.iconst 1, 1) := by decide +kernel
theorem d_K_layBottom_58 : decode c_K_layBottom 58 = .ok (.iadd, 1) := by decide +kernel
theorem d_K_layBottom_59 : decode c_K_layBottom 59 = .ok (.iastore, 1) := by decide +kernel
theorem d_K_layBottom_60 : decode c_K_layBottom 60 = .ok (.return_, 1) := by decide +kernel
theorem d_K_layRow_0 : decode c_K_layRow 0 = .ok (.aload_n 0, 1) := by decide +kernel
theorem d_K_layRow_1 : decode c_K_layRow 1 = .ok (.getfield 17, 3) := by decide +kernel
theorem d_K_layRow_4 : decode c_K_layRow 4 = .ok (.iload_n 1, 1) := by decide +kernel
theorem d_K_layRow_5 : decode c_K_layRow 5 = .ok (.invokevirtual 84, 3) := by decide +kernel
theorem d_K_layRow_8 : decode c_K_layRow 8 = .ok (.iconst 1, 1) := by decide +kernel
theorem d_K_layRow_9 : decode c_K_layRow 9 = .ok (.isub, 1) := by decide +kernel
theorem d_K_layRow_10 : decode c_K_layRow 10 = .ok (.istore_n 3, 1) := by decide +kernel
theorem d_K_layRow_11 : decode c_K_layRow 11 = .ok (.iload_n 3, 1) := by decide +kernel
theorem d_K_layRow_12 : decode c_K_layRow 12 = .ok (.ifCond .lt 31, 3) := by decide +kernel
theorem d_K_layRow_15 : decode c_K_layRow 15 = .ok (.aload_n 0, 1) := by decide +kernel
theorem d_K_layRow_16 : decode c_K_layRow 16 = .ok (.aload_n 0, 1) := by decide +kernel
theorem d_K_layRow_17 : decode c_K_layRow 17 = .ok (.getfield 17, 3) := by decide +kernel
theorem d_K_layRow_20 : decode c_K_layRow 20 = .ok (.iload_n 1, 1) := by decide +kernel
theorem d_K_layRow_21 : decode c_K_layRow 21 = .ok (.iload_n 3, 1) := by decide +kernel
theorem d_K_layRow_22 : decode c_K_layRow 22 = .ok (.invokevirtual 146, 3) := by decide +kernel
theorem d_K_layRow_25 : decode c_K_layRow 25 = .ok (.iload_n 2, 1) := by decide +kernel
theorem d_K_layRow_26 : decode c_K_layRow 26 = .ok (.invokevirtual 44, 3) := by decide +kernel
theorem d_K_layRow_29 : decode c_K_layRow 29 = .ok (.iload_n 3, 1) := by decide +kernel
theorem d_K_layRow_30 : decode c_K_layRow 30 = .ok (.ifCond .le 7, 3) := by decide +kernel
theorem d_K_layRow_33 : decode c_K_layRow 33 = .ok (.aload_n 0, 1) := by decide +kernel
theorem d_K_layRow_34 : decode c_K_layRow 34 = .ok (.invokevirtual 149, 3) := by decide +kernel
theorem d_K_layRow_37 : decode c_K_layRow 37 = .ok (.iinc 3 (-1), 3) := by decide +kernel
theorem d_K_layRow_40 : decode c_K_layRow 40 = .ok (.goto (-29), 3) := by decide +kernel
theorem d_K_layRow_43 : decode c_K_layRow 43 = .ok (.return_, 1) := by decide +kernel
theorem d_K_lay_0 : decode c_K_lay 0 = .ok (.aload_n 0, 1) := by decide +kernel
theorem d_K_lay_1 : decode c_K_lay 1 = .ok (.dup, 1) := by decide +kernel
theorem d_K_lay_2 : decode c_K_lay 2 = .ok (.getfield 48, 3) := by decide +kernel
theorem d_K_lay_5 : decode c_K_lay 5 = .ok (.iconst 1, 1) := by decide +kernel
theorem d_K_lay_6 : decode c_K_lay 6 = .ok (.iadd, 1) := by decide +kernel
theorem d_K_lay_7 : decode c_K_lay 7 = .ok (.putfield 48, 3) := by decide +kernel
theorem d_K_lay_10 : decode c_K_lay 10 = .ok (.aload_n 0, 1) := by decide +kernel
theorem d_K_lay_11 : decode c_K_lay 11 = .ok (.invokevirtual 143, 3) := by decide +kernel
theorem d_K_lay_14 : decode c_K_lay 14 = .ok (.aload_n 0, 1) := by decide +kernel
theorem d_K_lay_15 : decode c_K_lay 15 = .ok (.getfield 13, 3) := by decide +kernel
theorem d_K_lay_18 : decode c_K_lay 18 = .ok (.aload_n 0, 1) := by decide +kernel
theorem d_K_lay_19 : decode c_K_lay 19 = .ok (.getfield 48, 3) := by decide +kernel
theorem d_K_lay_22 : decode c_K_lay 22 = .ok (.aaload, 1) := by decide +kernel
theorem d_K_lay_23 : decode c_K_lay 23 = .ok (.iload_n 1, 1) := by decide +kernel
theorem d_K_lay_24 : decode c_K_lay 24 = .ok (.putfield 51, 3) := by decide +kernel
theorem d_K_lay_27 : decode c_K_lay 27 = .ok (.aload_n 0, 1) := by decide +kernel
theorem d_K_lay_28 : decode c_K_lay 28 = .ok (.getfield 13, 3) := by decide +kernel
theorem d_K_lay_31 : decode c_K_lay 31 = .ok (.aload_n 0, 1) := by decide +kernel
theorem d_K_lay_32 : decode c_K_lay 32 = .ok (.getfield 48, 3) := by decide +kernel
theorem d_K_lay_35 : decode c_K_lay 35 = .ok (.aaload, 1) := by decide +kernel
theorem d_K_lay_36 : decode c_K_lay 36 = .ok (.iload_n 2, 1) := by decide +kernel
theorem d_K_lay_37 : decode c_K_lay 37 = .ok (.putfield 64, 3) := by decide +kernel
theorem d_K_lay_40 : decode c_K_lay 40 = .ok (.return_, 1) := by decide +kernel
theorem d_K_makeRoom_0 : decode c_K_makeRoom 0 = .ok (.aload_n 0, 1) := by decide +kernel
theorem d_K_makeRoom_1 : decode c_K_makeRoom 1 = .ok (.getfield 13, 3) := by decide +kernel
theorem d_K_makeRoom_4 : decode c_K_makeRoom 4 = .ok (.aload_n 0, 1) := by decide +kernel
theorem d_K_makeRoom_5 : decode c_K_makeRoom 5 = .ok (.getfield 48, 3) := by decide +kernel
theorem d_K_makeRoom_8 : decode c_K_makeRoom 8 = .ok (.aaload, 1) := by decide +kernel
theorem d_K_makeRoom_9 : decode c_K_makeRoom 9 = .ok (.ifnonnull 19, 3) := by decide +kernel
theorem d_K_makeRoom_12 : decode c_K_makeRoom 12 = .ok (.aload_n 0, 1) := by decide +kernel
theorem d_K_makeRoom_13 : decode c_K_makeRoom 13 = .ok (.getfield 13, 3) := by decide +kernel
theorem d_K_makeRoom_16 : decode c_K_makeRoom 16 = .ok (.aload_n 0, 1) := by decide +kernel
theorem d_K_makeRoom_17 : decode c_K_makeRoom 17 = .ok (.getfield 48, 3) := by decide +kernel
theorem d_K_makeRoom_20 : decode c_K_makeRoom 20 = .ok (.new 11, 3) := by decide +kernel
theorem d_K_makeRoom_23 : decode c_K_makeRoom 23 = .ok (.dup, 1) := by decide +kernel
theorem d_K_makeRoom_24 : decode c_K_makeRoom 24 = .ok (.invokespecial 152, 3) := by decide +kernel
theorem d_K_makeRoom_27 : decode c_K_makeRoom 27 = .ok (.aastore, 1) := by decide +kernel
theorem d_K_makeRoom_28 : decode c_K_makeRoom 28 = .ok (.return_, 1) := by decide +kernel
theorem d_K_findReaches_0 : decode c_K_findReaches 0 = .ok (.aload_n 0, 1) := by decide +kernel
theorem d_K_findReaches_1 : decode c_K_findReaches 1 = .ok (.getfield 13, 3) := by decide +kernel
theorem d_K_findReaches_4 : decode c_K_findReaches 4 = .ok (.aload_n 0, 1) := by decide +kernel
theorem d_K_findReaches_5 : decode c_K_findReaches 5 = .ok (.getfield 48, 3) := by decide +kernel
theorem d_K_findReaches_8 : decode c_K_findReaches 8 = .ok (.aaload, 1) := by decide +kernel
theorem d_K_findReaches_9 : decode c_K_findReaches 9 = .ok (.getfield 121, 3) := by decide +kernel
theorem d_K_findReaches_12 : decode c_K_findReaches 12 = .ok (.astore_n 1, 1) := by decide +kernel
theorem d_K_findReaches_13 : decode c_K_findReaches 13 = .ok (.aload_n 0, 1) := by decide +kernel
theorem d_K_findReaches_14 : decode c_K_findReaches 14 = .ok (.getfield 13, 3) := by decide +kernel
theorem d_K_findReaches_17 : decode c_K_findReaches 17 = .ok (.aload_n 0, 1) := by decide +kernel
theorem d_K_findReaches_18 : decode c_K_findReaches 18 = .ok (.getfield 48, 3) := by decide +kernel
theorem d_K_findReaches_21 : decode c_K_findReaches 21 = .ok (.iconst 1, 1) := by decide +kernel
theorem d_K_findReaches_22 : decode c_K_findReaches 22 = .ok (.isub, 1) := by decide +kernel
theorem d_K_findReaches_23 : decode c_K_findReaches 23 = .ok (.aaload, 1) := by decide +kernel
theorem d_K_findReaches_24 : decode c_K_findReaches 24 = .ok (.getfield 121, 3) := by decide +kernel
theorem d_K_findReaches_27 : decode c_K_findReaches 27 = .ok (.astore_n 2, 1) := by decide +kernel
theorem d_K_findReaches_28 : decode c_K_findReaches 28 = .ok (.aload_n 0, 1) := by decide +kernel
theorem d_K_findReaches_29 : decode c_K_findReaches 29 = .ok (.getfield 13, 3) := by decide +kernel
theorem d_K_findReaches_32 : decode c_K_findReaches 32 = .ok (.aload_n 0, 1) := by decide +kernel
theorem d_K_findReaches_33 : decode c_K_findReaches 33 = .ok (.getfield 48, 3) := by decide +kernel
theorem d_K_findReaches_36 : decode c_K_findReaches 36 = .ok (.aaload, 1) := by decide +kernel
theorem d_K_findReaches_37 : decode c_K_findReaches 37 = .ok (.getfield 51, 3) := by decide +kernel
theorem d_K_findReaches_40 : decode c_K_findReaches 40 = .ok (.istore_n 3, 1) := by decide +kernel
theorem d_K_findReaches_41 : decode c_K_findReaches 41 = .ok (.aload_n 0, 1) := by decide +kernel
theorem d_K_findReaches_42 : decode c_K_findReaches 42 = .ok (.getfield 34, 3) := by decide +kernel
theorem d_K_findReaches_45 : decode c_K_findReaches 45 = .ok (.istore 4, 2) := by decide +kernel
theorem d_K_findReaches_47 : decode c_K_findReaches 47 = .ok (.iload 4, 2) := by decide +kernel
theorem d_K_findReaches_49 : decode c_K_findReaches 49 = .ok (.aload_n 0, 1) := by decide +kernel
theorem d_K_findReaches_50 : decode c_K_findReaches 50 = .ok (.getfield 25, 3) := by decide +kernel
theorem d_K_findReaches_53 : decode c_K_findReaches 53 = .ok (.invokevirtual 107, 3) := by decide +kernel
theorem d_K_findReaches_56 : decode c_K_findReaches 56 = .ok (.if_icmp .gt 71, 3) := by decide +kernel
theorem d_K_findReaches_59 : decode c_K_findReaches 59 = .ok (.iload_n 3, 1) := by decide +kernel
theorem d_K_findReaches_60 : decode c_K_findReaches 60 = .ok (.invokestatic 54, 3) := by decide +kernel
theorem d_K_findReaches_63 : decode c_K_findReaches 63 = .ok (.ifCond .eq 18, 3) := by decide +kernel
theorem d_K_findReaches_66 : decode c_K_findReaches 66 = .ok (.aload_n 1, 1) := by decide +kernel
theorem d_K_findReaches_67 : decode c_K_findReaches 67 = .ok (.iload 4, 2) := by decide +kernel
theorem d_K_findReaches_69 : decode c_K_findReaches 69 = .ok (.aload_n 0, 1) := by decide +kernel
theorem d_K_findReaches_70 : decode c_K_findReaches 70 = .ok (.iload_n 3, 1) := by decide +kernel
theorem d_K_findReaches_71 : decode c_K_findReaches 71 = .ok (.iload 4, 2) := by decide +kernel
theorem d_K_findReaches_73 : decode c_K_findReaches 73 = .ok (.aload_n 2, 1) := by decide +kernel
theorem d_K_findReaches_74 : decode c_K_findReaches 74 = .ok (.invokevirtual 153, 3) := by decide +kernel
theorem d_K_findReaches_77 : decode c_K_findReaches 77 = .ok (.iastore, 1) := by decide +kernel
theorem d_K_findReaches_78 : decode c_K_findReaches 78 = .ok (.goto 43, 3) := by decide +kernel
theorem d_K_findReaches_81 : decode c_K_findReaches 81 = .ok (.iload_n 3, 1) := by decide +kernel
theorem d_K_findReaches_82 : decode c_K_findReaches 82 = .ok (.invokestatic 60, 3) := by decide +kernel
theorem d_K_findReaches_85 : decode c_K_findReaches 85 = .ok (.iload 4, 2) := by decide +kernel
theorem d_K_findReaches_87 : decode c_K_findReaches 87 = .ok (.invokestatic 125, 3) := by decide +kernel
theorem d_K_findReaches_90 : decode c_K_findReaches 90 = .ok (.istore 5, 2) := by decide +kernel
theorem d_K_findReaches_92 : decode c_K_findReaches 92 = .ok (.aload_n 1, 1) := by decide +kernel
theorem d_K_findReaches_93 : decode c_K_findReaches 93 = .ok (.iload 4, 2) := by decide +kernel
theorem d_K_findReaches_95 : decode c_K_findReaches 95 = .ok (.aload_n 0, 1) := by decide +kernel
theorem d_K_findReaches_96 : decode c_K_findReaches 96 = .ok (.aload_n 0, 1) := by decide +kernel
theorem d_K_findReaches_97 : decode c_K_findReaches 97 = .ok (.getfield 25, 3) := by decide +kernel
theorem d_K_findReaches_100 : decode c_K_findReaches 100 = .ok (.iload 5, 2) := by decide +kernel
theorem d_K_findReaches_102 : decode c_K_findReaches 102 = .ok (.invokevirtual 157, 3) := by decide +kernel
theorem d_K_findReaches_105 : decode c_K_findReaches 105 = .ok (.aload_n 0, 1) := by decide +kernel
theorem d_K_findReaches_106 : decode c_K_findReaches 106 = .ok (.getfield 25, 3) := by decide +kernel
theorem d_K_findReaches_109 : decode c_K_findReaches 109 = .ok (.iload 5, 2) := by decide +kernel
theorem d_K_findReaches_111 : decode c_K_findReaches 111 = .ok (.invokevirtual 160, 3) := by decide +kernel
theorem d_K_findReaches_114 : decode c_K_findReaches 114 = .ok (.iload 4, 2) := by decide +kernel
theorem d_K_findReaches_116 : decode c_K_findReaches 116 = .ok (.aload_n 2, 1) := by decide +kernel
theorem d_K_findReaches_117 : decode c_K_findReaches 117 = .ok (.invokevirtual 135, 3) := by decide +kernel
theorem d_K_findReaches_120 : decode c_K_findReaches 120 = .ok (.iastore, 1) := by decide +kernel
theorem d_K_findReaches_121 : decode c_K_findReaches 121 = .ok (.iinc 4 1, 3) := by decide +kernel
theorem d_K_findReaches_124 : decode c_K_findReaches 124 = .ok (.goto (-77), 3) := by decide +kernel
theorem d_K_findReaches_127 : decode c_K_findReaches 127 = .ok (.return_, 1) := by decide +kernel
theorem d_K_reachOfToken_0 : decode c_K_reachOfToken 0 = .ok (.iload_n 2, 1) := by decide +kernel
theorem d_K_reachOfToken_1 : decode c_K_reachOfToken 1 = .ok (.aload_n 0, 1) := by decide +kernel
theorem d_K_reachOfToken_2 : decode c_K_reachOfToken 2 = .ok (.getfield 25, 3) := by decide +kernel
theorem d_K_reachOfToken_5 : decode c_K_reachOfToken 5 = .ok (.invokevirtual 107, 3) := by decide +kernel
theorem d_K_reachOfToken_8 : decode c_K_reachOfToken 8 = .ok (.if_icmp .ge 19, 3) := by decide +kernel
theorem d_K_reachOfToken_11 : decode c_K_reachOfToken 11 = .ok (.aload_n 0, 1) := by decide +kernel
theorem d_K_reachOfToken_12 : decode c_K_reachOfToken 12 = .ok (.getfield 21, 3) := by decide +kernel
theorem d_K_reachOfToken_15 : decode c_K_reachOfToken 15 = .ok (.iload_n 2, 1) := by decide +kernel
theorem d_K_reachOfToken_16 : decode c_K_reachOfToken 16 = .ok (.invokevirtual 163, 3) := by decide +kernel
theorem d_K_reachOfToken_19 : decode c_K_reachOfToken 19 = .ok (.iload_n 1, 1) := by decide +kernel
theorem d_K_reachOfToken_20 : decode c_K_reachOfToken 20 = .ok (.if_icmp .ne 7, 3) := by decide +kernel
theorem d_K_reachOfToken_23 : decode c_K_reachOfToken 23 = .ok (.iconst 1, 1) := by decide +kernel
theorem d_K_reachOfToken_24 : decode c_K_reachOfToken 24 = .ok (.goto 4, 3) := by decide +kernel
theorem d_K_reachOfToken_27 : decode c_K_reachOfToken 27 = .ok (.iconst 0, 1) := by decide +kernel
theorem d_K_reachOfToken_28 : decode c_K_reachOfToken 28 = .ok (.istore 4, 2) := by decide +kernel
theorem d_K_reachOfToken_30 : decode c_K_reachOfToken 30 = .ok (.iload 4, 2) := by decide +kernel
theorem d_K_reachOfToken_32 : decode c_K_reachOfToken 32 = .ok (.ifCond .eq 11, 3) := by decide +kernel
theorem d_K_reachOfToken_35 : decode c_K_reachOfToken 35 = .ok (.aload_n 3, 1) := by decide +kernel
theorem d_K_reachOfToken_36 : decode c_K_reachOfToken 36 = .ok (.iload_n 2, 1) := by decide +kernel
theorem d_K_reachOfToken_37 : decode c_K_reachOfToken 37 = .ok (.iconst 1, 1) := by decide +kernel
theorem d_K_reachOfToken_38 : decode c_K_reachOfToken 38 = .ok (.iadd, 1) := by decide +kernel
theorem d_K_reachOfToken_39 : decode c_K_reachOfToken 39 = .ok (.iaload, 1) := by decide +kernel
theorem d_K_reachOfToken_40 : decode c_K_reachOfToken 40 = .ok (.goto 4, 3) := by decide +kernel
theorem d_K_reachOfToken_43 : decode c_K_reachOfToken 43 = .ok (.iload_n 2, 1) := by decide +kernel
theorem d_K_reachOfToken_44 : decode c_K_reachOfToken 44 = .ok (.ireturn, 1) := by decide +kernel
theorem d_Y_init_0 : decode c_Y_init 0 = .ok (.aload_n 0, 1) := by decide +kernel
theorem d_Y_init_1 : decode c_Y_init 1 = .ok (.invokespecial 3, 3) := by decide +kernel
theorem d_Y_init_4 : decode c_Y_init 4 = .ok (.aload_n 0, 1) := by decide +kernel
theorem d_Y_init_5 : decode c_Y_init 5 = .ok (.ldc 9, 2) := by decide +kernel
theorem d_Y_init_7 : decode c_Y_init 7 = .ok (.newarray .int, 2) := by decide +kernel
theorem d_Y_init_9 : decode c_Y_init 9 = .ok (.putfield 10, 3) := by decide +kernel
theorem d_Y_init_12 : decode c_Y_init 12 = .ok (.aload_n 0, 1) := by decide +kernel
theorem d_Y_init_13 : decode c_Y_init 13 = .ok (.bipush 61, 2) := by decide +kernel
theorem d_Y_init_15 : decode c_Y_init 15 = .ok (.newarray .long, 2) := by decide +kernel
theorem d_Y_init_17 : decode c_Y_init 17 = .ok (.putfield 16, 3) := by decide +kernel
theorem d_Y_init_20 : decode c_Y_init 20 = .ok (.aload_n 0, 1) := by decide +kernel
theorem d_Y_init_21 : decode c_Y_init 21 = .ok (.aload_n 1, 1) := by decide +kernel
theorem d_Y_init_22 : decode c_Y_init 22 = .ok (.putfield 20, 3) := by decide +kernel
theorem d_Y_init_25 : decode c_Y_init 25 = .ok (.aload_n 0, 1) := by decide +kernel
theorem d_Y_init_26 : decode c_Y_init 26 = .ok (.aload_n 2, 1) := by decide +kernel
theorem d_Y_init_27 : decode c_Y_init 27 = .ok (.putfield 24, 3) := by decide +kernel
theorem d_Y_init_30 : decode c_Y_init 30 = .ok (.aload_n 0, 1) := by decide +kernel
theorem d_Y_init_31 : decode c_Y_init 31 = .ok (.aload_n 3, 1) := by decide +kernel
theorem d_Y_init_32 : decode c_Y_init 32 = .ok (.putfield 28, 3) := by decide +kernel
theorem d_Y_init_35 : decode c_Y_init 35 = .ok (.aload_n 0, 1) := by decide +kernel
theorem d_Y_init_36 : decode c_Y_init 36 = .ok (.aload 4, 2) := by decide +kernel
theorem d_Y_init_38 : decode c_Y_init 38 = .ok (.putfield 32, 3) := by decide +kernel
theorem d_Y_init_41 : decode c_Y_init 41 = .ok (.return_, 1) := by decide +kernel
theorem d_Y_ofWholeInput_0 : decode c_Y_ofWholeInput 0 = .ok (.aload_n 0, 1) := by decide +kernel
theorem d_Y_ofWholeInput_1 : decode c_Y_ofWholeInput 1 = .ok (.getfield 32, 3) := by decide +kernel
theorem d_Y_ofWholeInput_4 : decode c_Y_ofWholeInput 4 = .ok (.invokevirtual 36, 3) := by decide +kernel
theorem d_Y_ofWholeInput_7 : decode c_Y_ofWholeInput 7 = .ok (.istore_n 1, 1) := by decide +kernel
theorem d_Y_ofWholeInput_8 : decode c_Y_ofWholeInput 8 = .ok (.iload_n 1, 1) := by decide +kernel
theorem d_Y_ofWholeInput_9 : decode c_Y_ofWholeInput 9 = .ok (.ifCond .lt 41, 3) := by decide +kernel
theorem d_Y_ofWholeInput_12 : decode c_Y_ofWholeInput 12 = .ok (.iconst 0, 1) := by decide +kernel
theorem d_Y_ofWholeInput_13 : decode c_Y_ofWholeInput 13 = .ok (.istore_n 2, 1) := by decide +kernel
theorem d_Y_ofWholeInput_14 : decode c_Y_ofWholeInput 14 = .ok (.iload_n 2, 1) := by decide +kernel
theorem d_Y_ofWholeInput_15 : decode c_Y_ofWholeInput 15 = .ok (.aload_n 0, 1) := by decide +kernel
theorem d_Y_ofWholeInput_16 : decode c_Y_ofWholeInput 16 = .ok (.getfield 20, 3) := by decide +kernel
theorem d_Y_ofWholeInput_19 : decode c_Y_ofWholeInput 19 = .ok (.invokevirtual 42, 3) := by decide +kernel
theorem d_Y_ofWholeInput_22 : decode c_Y_ofWholeInput 22 = .ok (.if_icmp .ge 22, 3) := by decide +kernel
theorem d_Y_ofWholeInput_25 : decode c_Y_ofWholeInput 25 = .ok (.aload_n 0, 1) := by decide +kernel
theorem d_Y_ofWholeInput_26 : decode c_Y_ofWholeInput 26 = .ok (.aload_n 0, 1) := by decide +kernel
theorem d_Y_ofWholeInput_27 : decode c_Y_ofWholeInput 27 = .ok (.getfield 24, 3) := by decide +kernel
theorem d_Y_ofWholeInput_30 : decode c_Y_ofWholeInput 30 = .ok (.iload_n 2, 1) := by decide +kernel
theorem d_Y_ofWholeInput_31 : decode c_Y_ofWholeInput 31 = .ok (.invokevirtual 47, 3) := by decide +kernel
theorem d_Y_ofWholeInput_34 : decode c_Y_ofWholeInput 34 = .ok (.iload_n 1, 1) := by decide +kernel
theorem d_Y_ofWholeInput_35 : decode c_Y_ofWholeInput 35 = .ok (.invokevirtual 53, 3) := by decide +kernel
theorem d_Y_ofWholeInput_38 : decode c_Y_ofWholeInput 38 = .ok (.iinc 2 1, 3) := by decide +kernel
theorem d_Y_ofWholeInput_41 : decode c_Y_ofWholeInput 41 = .ok (.goto (-27), 3) := by decide +kernel
theorem d_Y_ofWholeInput_44 : decode c_Y_ofWholeInput 44 = .ok (.iinc 1 (-1), 3) := by decide +kernel
theorem d_Y_ofWholeInput_47 : decode c_Y_ofWholeInput 47 = .ok (.goto (-39), 3) := by decide +kernel
theorem d_Y_ofWholeInput_50 : decode c_Y_ofWholeInput 50 = .ok (.aload_n 0, 1) := by decide +kernel
theorem d_Y_ofWholeInput_51 : decode c_Y_ofWholeInput 51 = .ok (.getfield 10, 3) := by decide +kernel
theorem d_Y_ofWholeInput_54 : decode c_Y_ofWholeInput 54 = .ok (.iconst 0, 1) := by decide +kernel
theorem d_Y_ofWholeInput_55 : decode c_Y_ofWholeInput 55 = .ok (.iconst 0, 1) := by decide +kernel
theorem d_Y_ofWholeInput_56 : decode c_Y_ofWholeInput 56 = .ok (.aload_n 0, 1) := by decide +kernel
theorem d_Y_ofWholeInput_57 : decode c_Y_ofWholeInput 57 = .ok (.getfield 32, 3) := by decide +kernel
theorem d_Y_ofWholeInput_60 : decode c_Y_ofWholeInput 60 = .ok (.invokevirtual 36, 3) := by decide +kernel
theorem d_Y_ofWholeInput_63 : decode c_Y_ofWholeInput 63 = .ok (.invokestatic 57, 3) := by decide +kernel
theorem d_Y_ofWholeInput_66 : decode c_Y_ofWholeInput 66 = .ok (.iaload, 1) := by decide +kernel
theorem d_Y_ofWholeInput_67 : decode c_Y_ofWholeInput 67 = .ok (.ireturn, 1) := by decide +kernel
theorem d_Y_at_0 : decode c_Y_at 0 = .ok (.iload_n 0, 1) := by decide +kernel
theorem d_Y_at_1 : decode c_Y_at 1 = .ok (.bipush 61, 2) := by decide +kernel
theorem d_Y_at_3 : decode c_Y_at 3 = .ok (.imul, 1) := by decide +kernel
theorem d_Y_at_4 : decode c_Y_at 4 = .ok (.iload_n 1, 1) := by decide +kernel
theorem d_Y_at_5 : decode c_Y_at 5 = .ok (.iadd, 1) := by decide +kernel
theorem d_Y_at_6 : decode c_Y_at 6 = .ok (.bipush 61, 2) := by decide +kernel
theorem d_Y_at_8 : decode c_Y_at 8 = .ok (.imul, 1) := by decide +kernel
theorem d_Y_at_9 : decode c_Y_at 9 = .ok (.iload_n 2, 1) := by decide +kernel
theorem d_Y_at_10 : decode c_Y_at 10 = .ok (.iadd, 1) := by decide +kernel
theorem d_Y_at_11 : decode c_Y_at 11 = .ok (.ireturn, 1) := by decide +kernel
theorem d_Y_fillRule_0 : decode c_Y_fillRule 0 = .ok (.iload_n 2, 1) := by decide +kernel
theorem d_Y_fillRule_1 : decode c_Y_fillRule 1 = .ok (.istore_n 3, 1) := by decide +kernel
theorem d_Y_fillRule_2 : decode c_Y_fillRule 2 = .ok (.iload_n 3, 1) := by decide +kernel
theorem d_Y_fillRule_3 : decode c_Y_fillRule 3 = .ok (.aload_n 0, 1) := by decide +kernel
theorem d_Y_fillRule_4 : decode c_Y_fillRule 4 = .ok (.getfield 32, 3) := by decide +kernel
theorem d_Y_fillRule_7 : decode c_Y_fillRule 7 = .ok (.invokevirtual 36, 3) := by decide +kernel
theorem d_Y_fillRule_10 : decode c_Y_fillRule 10 = .ok (.if_icmp .gt 21, 3) := by decide +kernel
theorem d_Y_fillRule_13 : decode c_Y_fillRule 13 = .ok (.aload_n 0, 1) := by decide +kernel
theorem d_Y_fillRule_14 : decode c_Y_fillRule 14 = .ok (.getfield 10, 3) := by decide +kernel
theorem d_Y_fillRule_17 : decode c_Y_fillRule 17 = .ok (.iload_n 1, 1) := by decide +kernel
theorem d_Y_fillRule_18 : decode c_Y_fillRule 18 = .ok (.iload_n 2, 1) := by decide +kernel
theorem d_Y_fillRule_19 : decode c_Y_fillRule 19 = .ok (.iload_n 3, 1) := by decide +kernel
theorem d_Y_fillRule_20 : decode c_Y_fillRule 20 = .ok (.invokestatic 57, 3) := by decide +kernel
theorem d_Y_fillRule_23 : decode c_Y_fillRule 23 = .ok (.iconst 0, 1) := by decide +kernel
theorem d_Y_fillRule_24 : decode c_Y_fillRule 24 = .ok (.iastore, 1) := by decide +kernel
theorem d_Y_fillRule_25 : decode c_Y_fillRule 25 = .ok (.iinc 3 1, 3) := by decide +kernel
theorem d_Y_fillRule_28 : decode c_Y_fillRule 28 = .ok (.goto (-26), 3) := by decide +kernel
theorem d_Y_fillRule_31 : decode c_Y_fillRule 31 = .ok (.iconst 0, 1) := by decide +kernel
theorem d_Y_fillRule_32 : decode c_Y_fillRule 32 = .ok (.istore_n 3, 1) := by decide +kernel
theorem d_Y_fillRule_33 : decode c_Y_fillRule 33 = .ok (.iload_n 3, 1) := by decide +kernel
theorem d_Y_fillRule_34 : decode c_Y_fillRule 34 = .ok (.aload_n 0, 1) := by decide +kernel
theorem d_Y_fillRule_35 : decode c_Y_fillRule 35 = .ok (.getfield 20, 3) := by decide +kernel
theorem d_Y_fillRule_38 : decode c_Y_fillRule 38 = .ok (.iload_n 1, 1) := by decide +kernel
theorem d_Y_fillRule_39 : decode c_Y_fillRule 39 = .ok (.invokevirtual 61, 3) := by decide +kernel
theorem d_Y_fillRule_42 : decode c_Y_fillRule 42 = .ok (.if_icmp .ge 47, 3) := by decide +kernel
theorem d_Y_fillRule_45 : decode c_Y_fillRule 45 = .ok (.iload_n 1, 1) := by decide +kernel
theorem d_Y_fillRule_46 : decode c_Y_fillRule 46 = .ok (.iload_n 3, 1) := by decide +kernel
theorem d_Y_fillRule_47 : decode c_Y_fillRule 47 = .ok (.invokestatic 64, 3) := by decide +kernel
theorem d_Y_fillRule_50 : decode c_Y_fillRule 50 = .ok (.istore 4, 2) := by decide +kernel
theorem d_Y_fillRule_52 : decode c_Y_fillRule 52 = .ok (.aload_n 0, 1) := by decide +kernel
theorem d_Y_fillRule_53 : decode c_Y_fillRule 53 = .ok (.getfield 32, 3) := by decide +kernel
theorem d_Y_fillRule_56 : decode c_Y_fillRule 56 = .ok (.iload 4, 2) := by decide +kernel
theorem d_Y_fillRule_58 : decode c_Y_fillRule 58 = .ok (.iload_n 2, 1) := by decide +kernel
theorem d_Y_fillRule_59 : decode c_Y_fillRule 59 = .ok (.invokestatic 68, 3) := by decide +kernel
theorem d_Y_fillRule_62 : decode c_Y_fillRule 62 = .ok (.invokevirtual 70, 3) := by decide +kernel
theorem d_Y_fillRule_65 : decode c_Y_fillRule 65 = .ok (.lconst 0, 1) := by decide +kernel
theorem d_Y_fillRule_66 : decode c_Y_fillRule 66 = .ok (.lcmp, 1) := by decide +kernel
theorem d_Y_fillRule_67 : decode c_Y_fillRule 67 = .ok (.ifCond .eq 16, 3) := by decide +kernel
theorem d_Y_fillRule_70 : decode c_Y_fillRule 70 = .ok (.aload_n 0, 1) := by decide +kernel
theorem d_Y_fillRule_71 : decode c_Y_fillRule 71 = .ok (.iload 4, 2) := by decide +kernel
theorem d_Y_fillRule_73 : decode c_Y_fillRule 73 = .ok (.iload_n 2, 1) := by decide +kernel
theorem d_Y_fillRule_74 : decode c_Y_fillRule 74 = .ok (.invokevirtual 74, 3) := by decide +kernel
theorem d_Y_fillRule_77 : decode c_Y_fillRule 77 = .ok (.aload_n 0, 1) := by decide +kernel
theorem d_Y_fillRule_78 : decode c_Y_fillRule 78 = .ok (.iload_n 1, 1) := by decide +kernel
theorem d_Y_fillRule_79 : decode c_Y_fillRule 79 = .ok (.iload_n 2, 1) := by decide +kernel
theorem d_Y_fillRule_80 : decode c_Y_fillRule 80 = .ok (.invokevirtual 77, 3) := by decide +kernel
theorem d_Y_fillRule_83 : decode c_Y_fillRule 83 = .ok (.iinc 3 1, 3) := by decide +kernel
theorem d_Y_fillRule_86 : decode c_Y_fillRule 86 = .ok (.goto (-53), 3) := by decide +kernel
theorem d_Y_fillRule_89 : decode c_Y_fillRule 89 = .ok (.return_, 1) := by decide +kernel
theorem d_Y_addRow_0 : decode c_Y_addRow 0 = .ok (.iload_n 2, 1) := by decide +kernel
theorem d_Y_addRow_1 : decode c_Y_addRow 1 = .ok (.istore_n 3, 1) := by decide +kernel
theorem d_Y_addRow_2 : decode c_Y_addRow 2 = .ok (.iload_n 3, 1) := by decide +kernel
theorem d_Y_addRow_3 : decode c_Y_addRow 3 = .ok (.aload_n 0, 1) := by decide +kernel
theorem d_Y_addRow_4 : decode c_Y_addRow 4 = .ok (.getfield 32, 3) := by decide +kernel
theorem d_Y_addRow_7 : decode c_Y_addRow 7 = .ok (.invokevirtual 36, 3) := by decide +kernel
theorem d_Y_addRow_10 : decode c_Y_addRow 10 = .ok (.if_icmp .gt 46, 3) := by decide +kernel
theorem d_Y_addRow_13 : decode c_Y_addRow 13 = .ok (.iload_n 1, 1) := by decide +kernel
theorem d_Y_addRow_14 : decode c_Y_addRow 14 = .ok (.iload_n 2, 1) := by decide +kernel
theorem d_Y_addRow_15 : decode c_Y_addRow 15 = .ok (.iload_n 3, 1) := by decide +kernel
theorem d_Y_addRow_16 : decode c_Y_addRow 16 = .ok (.invokestatic 57, 3) := by decide +kernel
theorem d_Y_addRow_19 : decode c_Y_addRow 19 = .ok (.istore 4, 2) := by decide +kernel
theorem d_Y_addRow_21 : decode c_Y_addRow 21 = .ok (.aload_n 0, 1) := by decide +kernel
theorem d_Y_addRow_22 : decode c_Y_addRow 22 = .ok (.getfield 10, 3) := by decide +kernel
theorem d_Y_addRow_25 : decode c_Y_addRow 25 = .ok (.iload 4, 2) := by decide +kernel
theorem d_Y_addRow_27 : decode c_Y_addRow 27 = .ok (.ldc2_w 80, 3) := by decide +kernel
theorem d_Y_addRow_30 : decode c_Y_addRow 30 = .ok (.aload_n 0, 1) := by decide +kernel
theorem d_Y_addRow_31 : decode c_Y_addRow 31 = .ok (.getfield 10, 3) := by decide +kernel
theorem d_Y_addRow_34 : decode c_Y_addRow 34 = .ok (.iload 4, 2) := by decide +kernel
theorem d_Y_addRow_36 : decode c_Y_addRow 36 = .ok (.iaload, 1) := by decide +kernel
theorem d_Y_addRow_37 : decode c_Y_addRow 37 = .ok (.i2l, 1) := by decide +kernel
theorem d_Y_addRow_38 : decode c_Y_addRow 38 = .ok (.aload_n 0, 1) := by decide +kernel
theorem d_Y_addRow_39 : decode c_Y_addRow 39 = .ok (.getfield 16, 3) := by decide +kernel
theorem d_Y_addRow_42 : decode c_Y_addRow 42 = .ok (.iload_n 3, 1) := by decide +kernel
theorem d_Y_addRow_43 : decode c_Y_addRow 43 = .ok (.laload, 1) := by decide +kernel
theorem d_Y_addRow_44 : decode c_Y_addRow 44 = .ok (.ladd, 1) := by decide +kernel
theorem d_Y_addRow_45 : decode c_Y_addRow 45 = .ok (.invokestatic 82, 3) := by decide +kernel
theorem d_Y_addRow_48 : decode c_Y_addRow 48 = .ok (.l2i, 1) := by decide +kernel
theorem d_Y_addRow_49 : decode c_Y_addRow 49 = .ok (.iastore, 1) := by decide +kernel
theorem d_Y_addRow_50 : decode c_Y_addRow 50 = .ok (.iinc 3 1, 3) := by decide +kernel
theorem d_Y_addRow_53 : decode c_Y_addRow 53 = .ok (.goto (-51), 3) := by decide +kernel
theorem d_Y_addRow_56 : decode c_Y_addRow 56 = .ok (.return_, 1) := by decide +kernel
theorem d_Y_readRow_0 : decode c_Y_readRow 0 = .ok (.iload_n 2, 1) := by decide +kernel
theorem d_Y_readRow_1 : decode c_Y_readRow 1 = .ok (.istore_n 3, 1) := by decide +kernel
theorem d_Y_readRow_2 : decode c_Y_readRow 2 = .ok (.iload_n 3, 1) := by decide +kernel
theorem d_Y_readRow_3 : decode c_Y_readRow 3 = .ok (.aload_n 0, 1) := by decide +kernel
theorem d_Y_readRow_4 : decode c_Y_readRow 4 = .ok (.getfield 32, 3) := by decide +kernel
theorem d_Y_readRow_7 : decode c_Y_readRow 7 = .ok (.invokevirtual 36, 3) := by decide +kernel
theorem d_Y_readRow_10 : decode c_Y_readRow 10 = .ok (.if_icmp .gt 16, 3) := by decide +kernel
theorem d_Y_readRow_13 : decode c_Y_readRow 13 = .ok (.aload_n 0, 1) := by decide +kernel
theorem d_Y_readRow_14 : decode c_Y_readRow 14 = .ok (.getfield 16, 3) := by decide +kernel
theorem d_Y_readRow_17 : decode c_Y_readRow 17 = .ok (.iload_n 3, 1) := by decide +kernel
theorem d_Y_readRow_18 : decode c_Y_readRow 18 = .ok (.lconst 0, 1) := by decide +kernel
theorem d_Y_readRow_19 : decode c_Y_readRow 19 = .ok (.lastore, 1) := by decide +kernel
theorem d_Y_readRow_20 : decode c_Y_readRow 20 = .ok (.iinc 3 1, 3) := by decide +kernel
theorem d_Y_readRow_23 : decode c_Y_readRow 23 = .ok (.goto (-21), 3) := by decide +kernel
theorem d_Y_readRow_26 : decode c_Y_readRow 26 = .ok (.aload_n 0, 1) := by decide +kernel
theorem d_Y_readRow_27 : decode c_Y_readRow 27 = .ok (.getfield 16, 3) := by decide +kernel
theorem d_Y_readRow_30 : decode c_Y_readRow 30 = .ok (.iload_n 2, 1) := by decide +kernel
theorem d_Y_readRow_31 : decode c_Y_readRow 31 = .ok (.lconst 1, 1) := by decide +kernel
theorem d_Y_readRow_32 : decode c_Y_readRow 32 = .ok (.lastore, 1) := by decide +kernel
theorem d_Y_readRow_33 : decode c_Y_readRow 33 = .ok (.iconst 0, 1) := by decide +kernel
theorem d_Y_readRow_34 : decode c_Y_readRow 34 = .ok (.istore_n 3, 1) := by decide +kernel
theorem d_Y_readRow_35 : decode c_Y_readRow 35 = .ok (.iload_n 3, 1) := by decide +kernel
theorem d_Y_readRow_36 : decode c_Y_readRow 36 = .ok (.aload_n 0, 1) := by decide +kernel
theorem d_Y_readRow_37 : decode c_Y_readRow 37 = .ok (.getfield 20, 3) := by decide +kernel
theorem d_Y_readRow_40 : decode c_Y_readRow 40 = .ok (.iload_n 1, 1) := by decide +kernel
theorem d_Y_readRow_41 : decode c_Y_readRow 41 = .ok (.invokevirtual 88, 3) := by decide +kernel
theorem d_Y_readRow_44 : decode c_Y_readRow 44 = .ok (.if_icmp .ge 48, 3) := by decide +kernel
theorem d_Y_readRow_47 : decode c_Y_readRow 47 = .ok (.aload_n 0, 1) := by decide +kernel
theorem d_Y_readRow_48 : decode c_Y_readRow 48 = .ok (.getfield 20, 3) := by decide +kernel
theorem d_Y_readRow_51 : decode c_Y_readRow 51 = .ok (.iload_n 1, 1) := by decide +kernel
theorem d_Y_readRow_52 : decode c_Y_readRow 52 = .ok (.iload_n 3, 1) := by decide +kernel
theorem d_Y_readRow_53 : decode c_Y_readRow 53 = .ok (.invokevirtual 91, 3) := by decide +kernel
theorem d_Y_readRow_56 : decode c_Y_readRow 56 = .ok (.istore 4, 2) := by decide +kernel
theorem d_Y_readRow_58 : decode c_Y_readRow 58 = .ok (.iload 4, 2) := by decide +kernel
theorem d_Y_readRow_60 : decode c_Y_readRow 60 = .ok (.invokestatic 94, 3) := by decide +kernel
theorem d_Y_readRow_63 : decode c_Y_readRow 63 = .ok (.ifCond .eq 13, 3) := by decide +kernel
theorem d_Y_readRow_66 : decode c_Y_readRow 66 = .ok (.aload_n 0, 1) := by decide +kernel
theorem d_Y_readRow_67 : decode c_Y_readRow 67 = .ok (.iload 4, 2) := by decide +kernel
theorem d_Y_readRow_69 : decode c_Y_readRow 69 = .ok (.iload_n 2, 1) := by decide +kernel
theorem d_Y_readRow_70 : decode c_Y_readRow 70 = .ok (.invokevirtual 98, 3) := by decide +kernel
theorem d_Y_readRow_73 : decode c_Y_readRow 73 = .ok (.goto 13, 3) := by decide +kernel
theorem d_Y_readRow_76 : decode c_Y_readRow 76 = .ok (.aload_n 0, 1) := by decide +kernel
theorem d_Y_readRow_77 : decode c_Y_readRow 77 = .ok (.iload 4, 2) := by decide +kernel
theorem d_Y_readRow_79 : decode c_Y_readRow 79 = .ok (.invokestatic 101, 3) := by decide +kernel
theorem d_Y_readRow_82 : decode c_Y_readRow 82 = .ok (.iload_n 2, 1) := by decide +kernel
theorem d_Y_readRow_83 : decode c_Y_readRow 83 = .ok (.invokevirtual 104, 3) := by decide +kernel
theorem d_Y_readRow_86 : decode c_Y_readRow 86 = .ok (.iinc 3 1, 3) := by decide +kernel
theorem d_Y_readRow_89 : decode c_Y_readRow 89 = .ok (.goto (-54), 3) := by decide +kernel
theorem d_Y_readRow_92 : decode c_Y_readRow 92 = .ok (.return_, 1) := by decide +kernel
theorem d_Y_readToken_0 : decode c_Y_readToken 0 = .ok (.aload_n 0, 1) := by decide +kernel
theorem d_Y_readToken_1 : decode c_Y_readToken 1 = .ok (.getfield 32, 3) := by decide +kernel
theorem d_Y_readToken_4 : decode c_Y_readToken 4 = .ok (.invokevirtual 36, 3) := by decide +kernel
theorem d_Y_readToken_7 : decode c_Y_readToken 7 = .ok (.istore_n 3, 1) := by decide +kernel
theorem d_Y_readToken_8 : decode c_Y_readToken 8 = .ok (.iload_n 3, 1) := by decide +kernel
theorem d_Y_readToken_9 : decode c_Y_readToken 9 = .ok (.iload_n 2, 1) := by decide +kernel
theorem d_Y_readToken_10 : decode c_Y_readToken 10 = .ok (.if_icmp .le 41, 3) := by decide +kernel
theorem d_Y_readToken_13 : decode c_Y_readToken 13 = .ok (.aload_n 0, 1) := by decide +kernel
theorem d_Y_readToken_14 : decode c_Y_readToken 14 = .ok (.getfield 16, 3) := by decide +kernel
theorem d_Y_readToken_17 : decode c_Y_readToken 17 = .ok (.iload_n 3, 1) := by decide +kernel
theorem d_Y_readToken_18 : decode c_Y_readToken 18 = .ok (.aload_n 0, 1) := by decide +kernel
theorem d_Y_readToken_19 : decode c_Y_readToken 19 = .ok (.getfield 28, 3) := by decide +kernel
theorem d_Y_readToken_22 : decode c_Y_readToken 22 = .ok (.iload_n 3, 1) := by decide +kernel
theorem d_Y_readToken_23 : decode c_Y_readToken 23 = .ok (.iconst 1, 1) := by decide +kernel
theorem d_Y_readToken_24 : decode c_Y_readToken 24 = .ok (.isub, 1) := by decide +kernel
theorem d_Y_readToken_25 : decode c_Y_readToken 25 = .ok (.invokevirtual 107, 3) := by decide +kernel
theorem d_Y_readToken_28 : decode c_Y_readToken 28 = .ok (.iload_n 1, 1) := by decide +kernel
theorem d_Y_readToken_29 : decode c_Y_readToken 29 = .ok (.if_icmp .ne 14, 3) := by decide +kernel
theorem d_Y_readToken_32 : decode c_Y_readToken 32 = .ok (.aload_n 0, 1) := by decide +kernel
theorem d_Y_readToken_33 : decode c_Y_readToken 33 = .ok (.getfield 16, 3) := by decide +kernel
theorem d_Y_readToken_36 : decode c_Y_readToken 36 = .ok (.iload_n 3, 1) := by decide +kernel
theorem d_Y_readToken_37 : decode c_Y_readToken 37 = .ok (.iconst 1, 1) := by decide +kernel
theorem d_Y_readToken_38 : decode c_Y_readToken 38 = .ok (.isub, 1) := by decide +kernel
theorem d_Y_readToken_39 : decode c_Y_readToken 39 = .ok (.laload, 1) := by decide +kernel
theorem d_Y_readToken_40 : decode c_Y_readToken 40 = .ok (.goto 4, 3) := by decide +kernel
theorem d_Y_readToken_43 : decode c_Y_readToken 43 = .ok (.lconst 0, 1) := by decide +kernel
theorem d_Y_readToken_44 : decode c_Y_readToken 44 = .ok (.lastore, 1) := by decide +kernel
theorem d_Y_readToken_45 : decode c_Y_readToken 45 = .ok (.iinc 3 (-1), 3) := by decide +kernel
theorem d_Y_readToken_48 : decode c_Y_readToken 48 = .ok (.goto (-40), 3) := by decide +kernel
theorem d_Y_readToken_51 : decode c_Y_readToken 51 = .ok (.aload_n 0, 1) := by decide +kernel
theorem d_Y_readToken_52 : decode c_Y_readToken 52 = .ok (.getfield 16, 3) := by decide +kernel
theorem d_Y_readToken_55 : decode c_Y_readToken 55 = .ok (.iload_n 2, 1) := by decide +kernel
theorem d_Y_readToken_56 : decode c_Y_readToken 56 = .ok (.lconst 0, 1) := by decide +kernel
theorem d_Y_readToken_57 : decode c_Y_readToken 57 = .ok (.lastore, 1) := by decide +kernel
theorem d_Y_readToken_58 : decode c_Y_readToken 58 = .ok (.return_, 1) := by decide +kernel
theorem d_Y_readRule_0 : decode c_Y_readRule 0 = .ok (.aload_n 0, 1) := by decide +kernel
theorem d_Y_readRule_1 : decode c_Y_readRule 1 = .ok (.getfield 32, 3) := by decide +kernel
theorem d_Y_readRule_4 : decode c_Y_readRule 4 = .ok (.invokevirtual 36, 3) := by decide +kernel
theorem d_Y_readRule_7 : decode c_Y_readRule 7 = .ok (.istore_n 3, 1) := by decide +kernel
theorem d_Y_readRule_8 : decode c_Y_readRule 8 = .ok (.iload_n 3, 1) := by decide +kernel
theorem d_Y_readRule_9 : decode c_Y_readRule 9 = .ok (.iload_n 2, 1) := by decide +kernel
theorem d_Y_readRule_10 : decode c_Y_readRule 10 = .ok (.if_icmp .lt 39, 3) := by decide +kernel
theorem d_Y_readRule_13 : decode c_Y_readRule 13 = .ok (.aload_n 0, 1) := by decide +kernel
theorem d_Y_readRule_14 : decode c_Y_readRule 14 = .ok (.getfield 16, 3) := by decide +kernel
theorem d_Y_readRule_17 : decode c_Y_readRule 17 = .ok (.iload_n 3, 1) := by decide +kernel
theorem d_Y_readRule_18 : decode c_Y_readRule 18 = .ok (.laload, 1) := by decide +kernel
theorem d_Y_readRule_19 : decode c_Y_readRule 19 = .ok (.lstore 4, 2) := by decide +kernel
theorem d_Y_readRule_21 : decode c_Y_readRule 21 = .ok (.aload_n 0, 1) := by decide +kernel
theorem d_Y_readRule_22 : decode c_Y_readRule 22 = .ok (.getfield 16, 3) := by decide +kernel
theorem d_Y_readRule_25 : decode c_Y_readRule 25 = .ok (.iload_n 3, 1) := by decide +kernel
theorem d_Y_readRule_26 : decode c_Y_readRule 26 = .ok (.lconst 0, 1) := by decide +kernel
theorem d_Y_readRule_27 : decode c_Y_readRule 27 = .ok (.lastore, 1) := by decide +kernel
theorem d_Y_readRule_28 : decode c_Y_readRule 28 = .ok (.lload 4, 2) := by decide +kernel
theorem d_Y_readRule_30 : decode c_Y_readRule 30 = .ok (.lconst 0, 1) := by decide +kernel
theorem d_Y_readRule_31 : decode c_Y_readRule 31 = .ok (.lcmp, 1) := by decide +kernel
theorem d_Y_readRule_32 : decode c_Y_readRule 32 = .ok (.ifCond .eq 11, 3) := by decide +kernel
theorem d_Y_readRule_35 : decode c_Y_readRule 35 = .ok (.aload_n 0, 1) := by decide +kernel
theorem d_Y_readRule_36 : decode c_Y_readRule 36 = .ok (.lload 4, 2) := by decide +kernel
theorem d_Y_readRule_38 : decode c_Y_readRule 38 = .ok (.iload_n 1, 1) := by decide +kernel
theorem d_Y_readRule_39 : decode c_Y_readRule 39 = .ok (.iload_n 3, 1) := by decide +kernel
theorem d_Y_readRule_40 : decode c_Y_readRule 40 = .ok (.invokevirtual 112, 3) := by decide +kernel
theorem d_Y_readRule_43 : decode c_Y_readRule 43 = .ok (.iinc 3 (-1), 3) := by decide +kernel
theorem d_Y_readRule_46 : decode c_Y_readRule 46 = .ok (.goto (-38), 3) := by decide +kernel
theorem d_Y_readRule_49 : decode c_Y_readRule 49 = .ok (.return_, 1) := by decide +kernel
theorem d_Y_spread_0 : decode c_Y_spread 0 = .ok (.iload 4, 2) := by decide +kernel
theorem d_Y_spread_2 : decode c_Y_spread 2 = .ok (.istore 5, 2) := by decide +kernel
theorem d_Y_spread_4 : decode c_Y_spread 4 = .ok (.iload 5, 2) := by decide +kernel
theorem d_Y_spread_6 : decode c_Y_spread 6 = .ok (.aload_n 0, 1) := by decide +kernel
theorem d_Y_spread_7 : decode c_Y_spread 7 = .ok (.getfield 32, 3) := by decide +kernel
theorem d_Y_spread_10 : decode c_Y_spread 10 = .ok (.invokevirtual 36, 3) := by decide +kernel
theorem d_Y_spread_13 : decode c_Y_spread 13 = .ok (.if_icmp .gt 50, 3) := by decide +kernel
theorem d_Y_spread_16 : decode c_Y_spread 16 = .ok (.lload_n 1, 1) := by decide +kernel
theorem d_Y_spread_17 : decode c_Y_spread 17 = .ok (.aload_n 0, 1) := by decide +kernel
theorem d_Y_spread_18 : decode c_Y_spread 18 = .ok (.getfield 10, 3) := by decide +kernel
theorem d_Y_spread_21 : decode c_Y_spread 21 = .ok (.iload_n 3, 1) := by decide +kernel
theorem d_Y_spread_22 : decode c_Y_spread 22 = .ok (.iload 4, 2) := by decide +kernel
theorem d_Y_spread_24 : decode c_Y_spread 24 = .ok (.iload 5, 2) := by decide +kernel
theorem d_Y_spread_26 : decode c_Y_spread 26 = .ok (.invokestatic 57, 3) := by decide +kernel
theorem d_Y_spread_29 : decode c_Y_spread 29 = .ok (.iaload, 1) := by decide +kernel
theorem d_Y_spread_30 : decode c_Y_spread 30 = .ok (.i2l, 1) := by decide +kernel
theorem d_Y_spread_31 : decode c_Y_spread 31 = .ok (.lmul, 1) := by decide +kernel
theorem d_Y_spread_32 : decode c_Y_spread 32 = .ok (.lstore 6, 2) := by decide +kernel
theorem d_Y_spread_34 : decode c_Y_spread 34 = .ok (.aload_n 0, 1) := by decide +kernel
theorem d_Y_spread_35 : decode c_Y_spread 35 = .ok (.getfield 16, 3) := by decide +kernel
theorem d_Y_spread_38 : decode c_Y_spread 38 = .ok (.iload 5, 2) := by decide +kernel
theorem d_Y_spread_40 : decode c_Y_spread 40 = .ok (.ldc2_w 80, 3) := by decide +kernel
theorem d_Y_spread_43 : decode c_Y_spread 43 = .ok (.aload_n 0, 1) := by decide +kernel
theorem d_Y_spread_44 : decode c_Y_spread 44 = .ok (.getfield 16, 3) := by decide +kernel
theorem d_Y_spread_47 : decode c_Y_spread 47 = .ok (.iload 5, 2) := by decide +kernel
theorem d_Y_spread_49 : decode c_Y_spread 49 = .ok (.laload, 1) := by decide +kernel
theorem d_Y_spread_50 : decode c_Y_spread 50 = .ok (.lload 6, 2) := by decide +kernel
theorem d_Y_spread_52 : decode c_Y_spread 52 = .ok (.ladd, 1) := by decide +kernel
theorem d_Y_spread_53 : decode c_Y_spread 53 = .ok (.invokestatic 82, 3) := by decide +kernel
theorem d_Y_spread_56 : decode c_Y_spread 56 = .ok (.lastore, 1) := by decide +kernel
theorem d_Y_spread_57 : decode c_Y_spread 57 = .ok (.iinc 5 1, 3) := by decide +kernel
theorem d_Y_spread_60 : decode c_Y_spread 60 = .ok (.goto (-56), 3) := by decide +kernel
theorem d_Y_spread_63 : decode c_Y_spread 63 = .ok (.return_, 1) := by decide +kernel
