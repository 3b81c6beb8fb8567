/-! decode rows, by program -/
theorem d_L_rule_0 : decode c_L_rule 0 = .ok (.aload_n 1, 1) := by decide +kernel
theorem d_L_rule_1 : decode c_L_rule 1 = .ok (.iconst 0, 1) := by decide +kernel
theorem d_L_rule_2 : decode c_L_rule 2 = .ok (.aload_n 0, 1) := by decide +kernel
theorem d_L_rule_3 : decode c_L_rule 3 = .ok (.invokevirtual 7, 3) := by decide +kernel
theorem d_L_rule_6 : decode c_L_rule 6 = .ok (.i2l, 1) := by decide +kernel
theorem d_L_rule_7 : decode c_L_rule 7 = .ok (.lastore, 1) := by decide +kernel
theorem d_L_rule_8 : decode c_L_rule 8 = .ok (.goto 6, 3) := by decide +kernel
theorem d_L_rule_11 : decode c_L_rule 11 = .ok (.astore_n 2, 1) := by decide +kernel
theorem d_L_rule_12 : decode c_L_rule 12 = .ok (.iconst 1, 1) := by decide +kernel
theorem d_L_rule_13 : decode c_L_rule 13 = .ok (.ireturn, 1) := by decide +kernel
theorem d_L_rule_14 : decode c_L_rule 14 = .ok (.iconst 0, 1) := by decide +kernel
theorem d_L_rule_15 : decode c_L_rule 15 = .ok (.ireturn, 1) := by decide +kernel
theorem d_L_alternative_0 : decode c_L_alternative 0 = .ok (.aload_n 2, 1) := by decide +kernel
theorem d_L_alternative_1 : decode c_L_alternative 1 = .ok (.iconst 0, 1) := by decide +kernel
theorem d_L_alternative_2 : decode c_L_alternative 2 = .ok (.aload_n 0, 1) := by decide +kernel
theorem d_L_alternative_3 : decode c_L_alternative 3 = .ok (.iload_n 1, 1) := by decide +kernel
theorem d_L_alternative_4 : decode c_L_alternative 4 = .ok (.invokevirtual 15, 3) := by decide +kernel
theorem d_L_alternative_7 : decode c_L_alternative 7 = .ok (.i2l, 1) := by decide +kernel
theorem d_L_alternative_8 : decode c_L_alternative 8 = .ok (.lastore, 1) := by decide +kernel
theorem d_L_alternative_9 : decode c_L_alternative 9 = .ok (.goto 9, 3) := by decide +kernel
theorem d_L_alternative_12 : decode c_L_alternative 12 = .ok (.astore_n 3, 1) := by decide +kernel
theorem d_L_alternative_13 : decode c_L_alternative 13 = .ok (.iconst 1, 1) := by decide +kernel
theorem d_L_alternative_14 : decode c_L_alternative 14 = .ok (.ireturn, 1) := by decide +kernel
theorem d_L_alternative_15 : decode c_L_alternative 15 = .ok (.astore_n 3, 1) := by decide +kernel
theorem d_L_alternative_16 : decode c_L_alternative 16 = .ok (.iconst 2, 1) := by decide +kernel
theorem d_L_alternative_17 : decode c_L_alternative 17 = .ok (.ireturn, 1) := by decide +kernel
theorem d_L_alternative_18 : decode c_L_alternative 18 = .ok (.iconst 0, 1) := by decide +kernel
theorem d_L_alternative_19 : decode c_L_alternative 19 = .ok (.ireturn, 1) := by decide +kernel
theorem d_L_symbol_0 : decode c_L_symbol 0 = .ok (.aload_n 3, 1) := by decide +kernel
theorem d_L_symbol_1 : decode c_L_symbol 1 = .ok (.iconst 0, 1) := by decide +kernel
theorem d_L_symbol_2 : decode c_L_symbol 2 = .ok (.aload_n 0, 1) := by decide +kernel
theorem d_L_symbol_3 : decode c_L_symbol 3 = .ok (.iload_n 1, 1) := by decide +kernel
theorem d_L_symbol_4 : decode c_L_symbol 4 = .ok (.iload_n 2, 1) := by decide +kernel
theorem d_L_symbol_5 : decode c_L_symbol 5 = .ok (.invokevirtual 21, 3) := by decide +kernel
theorem d_L_symbol_8 : decode c_L_symbol 8 = .ok (.i2l, 1) := by decide +kernel
theorem d_L_symbol_9 : decode c_L_symbol 9 = .ok (.lastore, 1) := by decide +kernel
theorem d_L_symbol_10 : decode c_L_symbol 10 = .ok (.goto 19, 3) := by decide +kernel
theorem d_L_symbol_13 : decode c_L_symbol 13 = .ok (.astore 4, 2) := by decide +kernel
theorem d_L_symbol_15 : decode c_L_symbol 15 = .ok (.iconst 1, 1) := by decide +kernel
theorem d_L_symbol_16 : decode c_L_symbol 16 = .ok (.ireturn, 1) := by decide +kernel
theorem d_L_symbol_17 : decode c_L_symbol 17 = .ok (.astore 4, 2) := by decide +kernel
theorem d_L_symbol_19 : decode c_L_symbol 19 = .ok (.iconst 2, 1) := by decide +kernel
theorem d_L_symbol_20 : decode c_L_symbol 20 = .ok (.ireturn, 1) := by decide +kernel
theorem d_L_symbol_21 : decode c_L_symbol 21 = .ok (.astore 4, 2) := by decide +kernel
theorem d_L_symbol_23 : decode c_L_symbol 23 = .ok (.iconst 3, 1) := by decide +kernel
theorem d_L_symbol_24 : decode c_L_symbol 24 = .ok (.ireturn, 1) := by decide +kernel
theorem d_L_symbol_25 : decode c_L_symbol 25 = .ok (.astore 4, 2) := by decide +kernel
theorem d_L_symbol_27 : decode c_L_symbol 27 = .ok (.iconst 4, 1) := by decide +kernel
theorem d_L_symbol_28 : decode c_L_symbol 28 = .ok (.ireturn, 1) := by decide +kernel
theorem d_L_symbol_29 : decode c_L_symbol 29 = .ok (.iconst 0, 1) := by decide +kernel
theorem d_L_symbol_30 : decode c_L_symbol 30 = .ok (.ireturn, 1) := by decide +kernel
theorem d_L_token_0 : decode c_L_token 0 = .ok (.aload_n 2, 1) := by decide +kernel
theorem d_L_token_1 : decode c_L_token 1 = .ok (.iconst 0, 1) := by decide +kernel
theorem d_L_token_2 : decode c_L_token 2 = .ok (.aload_n 0, 1) := by decide +kernel
theorem d_L_token_3 : decode c_L_token 3 = .ok (.iload_n 1, 1) := by decide +kernel
theorem d_L_token_4 : decode c_L_token 4 = .ok (.invokevirtual 29, 3) := by decide +kernel
theorem d_L_token_7 : decode c_L_token 7 = .ok (.i2l, 1) := by decide +kernel
theorem d_L_token_8 : decode c_L_token 8 = .ok (.lastore, 1) := by decide +kernel
theorem d_L_token_9 : decode c_L_token 9 = .ok (.goto 9, 3) := by decide +kernel
theorem d_L_token_12 : decode c_L_token 12 = .ok (.astore_n 3, 1) := by decide +kernel
theorem d_L_token_13 : decode c_L_token 13 = .ok (.iconst 1, 1) := by decide +kernel
theorem d_L_token_14 : decode c_L_token 14 = .ok (.ireturn, 1) := by decide +kernel
theorem d_L_token_15 : decode c_L_token 15 = .ok (.astore_n 3, 1) := by decide +kernel
theorem d_L_token_16 : decode c_L_token 16 = .ok (.iconst 2, 1) := by decide +kernel
theorem d_L_token_17 : decode c_L_token 17 = .ok (.ireturn, 1) := by decide +kernel
theorem d_L_token_18 : decode c_L_token 18 = .ok (.iconst 0, 1) := by decide +kernel
theorem d_L_token_19 : decode c_L_token 19 = .ok (.ireturn, 1) := by decide +kernel
theorem d_L_keep_0 : decode c_L_keep 0 = .ok (.aload_n 0, 1) := by decide +kernel
theorem d_L_keep_1 : decode c_L_keep 1 = .ok (.iload_n 1, 1) := by decide +kernel
theorem d_L_keep_2 : decode c_L_keep 2 = .ok (.invokevirtual 32, 3) := by decide +kernel
theorem d_L_keep_5 : decode c_L_keep 5 = .ok (.goto 6, 3) := by decide +kernel
theorem d_L_keep_8 : decode c_L_keep 8 = .ok (.astore_n 2, 1) := by decide +kernel
theorem d_L_keep_9 : decode c_L_keep 9 = .ok (.iconst 1, 1) := by decide +kernel
theorem d_L_keep_10 : decode c_L_keep 10 = .ok (.ireturn, 1) := by decide +kernel
theorem d_L_keep_11 : decode c_L_keep 11 = .ok (.iconst 0, 1) := by decide +kernel
theorem d_L_keep_12 : decode c_L_keep 12 = .ok (.ireturn, 1) := by decide +kernel
theorem d_L_parse_0 : decode c_L_parse 0 = .ok (.aload_n 1, 1) := by decide +kernel
theorem d_L_parse_1 : decode c_L_parse 1 = .ok (.iconst 0, 1) := by decide +kernel
theorem d_L_parse_2 : decode c_L_parse 2 = .ok (.aload_n 0, 1) := by decide +kernel
theorem d_L_parse_3 : decode c_L_parse 3 = .ok (.invokevirtual 36, 3) := by decide +kernel
theorem d_L_parse_6 : decode c_L_parse 6 = .ok (.i2l, 1) := by decide +kernel
theorem d_L_parse_7 : decode c_L_parse 7 = .ok (.lastore, 1) := by decide +kernel
theorem d_L_parse_8 : decode c_L_parse 8 = .ok (.goto 9, 3) := by decide +kernel
theorem d_L_parse_11 : decode c_L_parse 11 = .ok (.astore_n 2, 1) := by decide +kernel
theorem d_L_parse_12 : decode c_L_parse 12 = .ok (.iconst 1, 1) := by decide +kernel
theorem d_L_parse_13 : decode c_L_parse 13 = .ok (.ireturn, 1) := by decide +kernel
theorem d_L_parse_14 : decode c_L_parse 14 = .ok (.astore_n 2, 1) := by decide +kernel
theorem d_L_parse_15 : decode c_L_parse 15 = .ok (.iconst 2, 1) := by decide +kernel
theorem d_L_parse_16 : decode c_L_parse 16 = .ok (.ireturn, 1) := by decide +kernel
theorem d_L_parse_17 : decode c_L_parse 17 = .ok (.iconst 0, 1) := by decide +kernel
theorem d_L_parse_18 : decode c_L_parse 18 = .ok (.ireturn, 1) := by decide +kernel
theorem d_L_node_0 : decode c_L_node 0 = .ok (.aload_n 3, 1) := by decide +kernel
theorem d_L_node_1 : decode c_L_node 1 = .ok (.iconst 0, 1) := by decide +kernel
theorem d_L_node_2 : decode c_L_node 2 = .ok (.aload_n 0, 1) := by decide +kernel
theorem d_L_node_3 : decode c_L_node 3 = .ok (.iload_n 1, 1) := by decide +kernel
theorem d_L_node_4 : decode c_L_node 4 = .ok (.iload_n 2, 1) := by decide +kernel
theorem d_L_node_5 : decode c_L_node 5 = .ok (.invokevirtual 39, 3) := by decide +kernel
theorem d_L_node_8 : decode c_L_node 8 = .ok (.i2l, 1) := by decide +kernel
theorem d_L_node_9 : decode c_L_node 9 = .ok (.lastore, 1) := by decide +kernel
theorem d_L_node_10 : decode c_L_node 10 = .ok (.goto 11, 3) := by decide +kernel
theorem d_L_node_13 : decode c_L_node 13 = .ok (.astore 4, 2) := by decide +kernel
theorem d_L_node_15 : decode c_L_node 15 = .ok (.iconst 1, 1) := by decide +kernel
theorem d_L_node_16 : decode c_L_node 16 = .ok (.ireturn, 1) := by decide +kernel
theorem d_L_node_17 : decode c_L_node 17 = .ok (.astore 4, 2) := by decide +kernel
theorem d_L_node_19 : decode c_L_node 19 = .ok (.iconst 2, 1) := by decide +kernel
theorem d_L_node_20 : decode c_L_node 20 = .ok (.ireturn, 1) := by decide +kernel
theorem d_L_node_21 : decode c_L_node 21 = .ok (.iconst 0, 1) := by decide +kernel
theorem d_L_node_22 : decode c_L_node 22 = .ok (.ireturn, 1) := by decide +kernel
theorem d_L_reach_0 : decode c_L_reach 0 = .ok (.aload_n 1, 1) := by decide +kernel
theorem d_L_reach_1 : decode c_L_reach 1 = .ok (.iconst 0, 1) := by decide +kernel
theorem d_L_reach_2 : decode c_L_reach 2 = .ok (.aload_n 0, 1) := by decide +kernel
theorem d_L_reach_3 : decode c_L_reach 3 = .ok (.invokevirtual 42, 3) := by decide +kernel
theorem d_L_reach_6 : decode c_L_reach 6 = .ok (.i2l, 1) := by decide +kernel
theorem d_L_reach_7 : decode c_L_reach 7 = .ok (.lastore, 1) := by decide +kernel
theorem d_L_reach_8 : decode c_L_reach 8 = .ok (.goto 6, 3) := by decide +kernel
theorem d_L_reach_11 : decode c_L_reach 11 = .ok (.astore_n 2, 1) := by decide +kernel
theorem d_L_reach_12 : decode c_L_reach 12 = .ok (.iconst 1, 1) := by decide +kernel
theorem d_L_reach_13 : decode c_L_reach 13 = .ok (.ireturn, 1) := by decide +kernel
theorem d_L_reach_14 : decode c_L_reach 14 = .ok (.iconst 0, 1) := by decide +kernel
theorem d_L_reach_15 : decode c_L_reach 15 = .ok (.ireturn, 1) := by decide +kernel
theorem d_L_expected_0 : decode c_L_expected 0 = .ok (.aload_n 2, 1) := by decide +kernel
theorem d_L_expected_1 : decode c_L_expected 1 = .ok (.iconst 0, 1) := by decide +kernel
theorem d_L_expected_2 : decode c_L_expected 2 = .ok (.aload_n 0, 1) := by decide +kernel
theorem d_L_expected_3 : decode c_L_expected 3 = .ok (.iload_n 1, 1) := by decide +kernel
theorem d_L_expected_4 : decode c_L_expected 4 = .ok (.invokevirtual 45, 3) := by decide +kernel
theorem d_L_expected_7 : decode c_L_expected 7 = .ok (.lastore, 1) := by decide +kernel
theorem d_L_expected_8 : decode c_L_expected 8 = .ok (.goto 9, 3) := by decide +kernel
theorem d_L_expected_11 : decode c_L_expected 11 = .ok (.astore_n 3, 1) := by decide +kernel
theorem d_L_expected_12 : decode c_L_expected 12 = .ok (.iconst 1, 1) := by decide +kernel
theorem d_L_expected_13 : decode c_L_expected 13 = .ok (.ireturn, 1) := by decide +kernel
theorem d_L_expected_14 : decode c_L_expected 14 = .ok (.astore_n 3, 1) := by decide +kernel
theorem d_L_expected_15 : decode c_L_expected 15 = .ok (.iconst 2, 1) := by decide +kernel
theorem d_L_expected_16 : decode c_L_expected 16 = .ok (.ireturn, 1) := by decide +kernel
theorem d_L_expected_17 : decode c_L_expected 17 = .ok (.iconst 0, 1) := by decide +kernel
theorem d_L_expected_18 : decode c_L_expected 18 = .ok (.ireturn, 1) := by decide +kernel
theorem d_L_isNothing_0 : decode c_L_isNothing 0 = .ok (.aload_n 2, 1) := by decide +kernel
theorem d_L_isNothing_1 : decode c_L_isNothing 1 = .ok (.iconst 0, 1) := by decide +kernel
theorem d_L_isNothing_2 : decode c_L_isNothing 2 = .ok (.aload_n 0, 1) := by decide +kernel
theorem d_L_isNothing_3 : decode c_L_isNothing 3 = .ok (.iload_n 1, 1) := by decide +kernel
theorem d_L_isNothing_4 : decode c_L_isNothing 4 = .ok (.invokevirtual 49, 3) := by decide +kernel
theorem d_L_isNothing_7 : decode c_L_isNothing 7 = .ok (.ifCond .eq 7, 3) := by decide +kernel
theorem d_L_isNothing_10 : decode c_L_isNothing 10 = .ok (.lconst 1, 1) := by decide +kernel
theorem d_L_isNothing_11 : decode c_L_isNothing 11 = .ok (.goto 4, 3) := by decide +kernel
theorem d_L_isNothing_14 : decode c_L_isNothing 14 = .ok (.lconst 0, 1) := by decide +kernel
theorem d_L_isNothing_15 : decode c_L_isNothing 15 = .ok (.lastore, 1) := by decide +kernel
theorem d_L_isNothing_16 : decode c_L_isNothing 16 = .ok (.goto 9, 3) := by decide +kernel
theorem d_L_isNothing_19 : decode c_L_isNothing 19 = .ok (.astore_n 3, 1) := by decide +kernel
theorem d_L_isNothing_20 : decode c_L_isNothing 20 = .ok (.iconst 1, 1) := by decide +kernel
theorem d_L_isNothing_21 : decode c_L_isNothing 21 = .ok (.ireturn, 1) := by decide +kernel
theorem d_L_isNothing_22 : decode c_L_isNothing 22 = .ok (.astore_n 3, 1) := by decide +kernel
theorem d_L_isNothing_23 : decode c_L_isNothing 23 = .ok (.iconst 2, 1) := by decide +kernel
theorem d_L_isNothing_24 : decode c_L_isNothing 24 = .ok (.ireturn, 1) := by decide +kernel
theorem d_L_isNothing_25 : decode c_L_isNothing 25 = .ok (.iconst 0, 1) := by decide +kernel
theorem d_L_isNothing_26 : decode c_L_isNothing 26 = .ok (.ireturn, 1) := by decide +kernel
theorem d_L_first_0 : decode c_L_first 0 = .ok (.aload_n 2, 1) := by decide +kernel
theorem d_L_first_1 : decode c_L_first 1 = .ok (.iconst 0, 1) := by decide +kernel
theorem d_L_first_2 : decode c_L_first 2 = .ok (.aload_n 0, 1) := by decide +kernel
theorem d_L_first_3 : decode c_L_first 3 = .ok (.iload_n 1, 1) := by decide +kernel
theorem d_L_first_4 : decode c_L_first 4 = .ok (.invokevirtual 53, 3) := by decide +kernel
theorem d_L_first_7 : decode c_L_first 7 = .ok (.lastore, 1) := by decide +kernel
theorem d_L_first_8 : decode c_L_first 8 = .ok (.goto 9, 3) := by decide +kernel
theorem d_L_first_11 : decode c_L_first 11 = .ok (.astore_n 3, 1) := by decide +kernel
theorem d_L_first_12 : decode c_L_first 12 = .ok (.iconst 1, 1) := by decide +kernel
theorem d_L_first_13 : decode c_L_first 13 = .ok (.ireturn, 1) := by decide +kernel
theorem d_L_first_14 : decode c_L_first 14 = .ok (.astore_n 3, 1) := by decide +kernel
theorem d_L_first_15 : decode c_L_first 15 = .ok (.iconst 2, 1) := by decide +kernel
theorem d_L_first_16 : decode c_L_first 16 = .ok (.ireturn, 1) := by decide +kernel
theorem d_L_first_17 : decode c_L_first 17 = .ok (.iconst 0, 1) := by decide +kernel
theorem d_L_first_18 : decode c_L_first 18 = .ok (.ireturn, 1) := by decide +kernel
theorem d_L_following_0 : decode c_L_following 0 = .ok (.aload_n 2, 1) := by decide +kernel
theorem d_L_following_1 : decode c_L_following 1 = .ok (.iconst 0, 1) := by decide +kernel
theorem d_L_following_2 : decode c_L_following 2 = .ok (.aload_n 0, 1) := by decide +kernel
theorem d_L_following_3 : decode c_L_following 3 = .ok (.iload_n 1, 1) := by decide +kernel
theorem d_L_following_4 : decode c_L_following 4 = .ok (.invokevirtual 56, 3) := by decide +kernel
theorem d_L_following_7 : decode c_L_following 7 = .ok (.lastore, 1) := by decide +kernel
theorem d_L_following_8 : decode c_L_following 8 = .ok (.goto 9, 3) := by decide +kernel
theorem d_L_following_11 : decode c_L_following 11 = .ok (.astore_n 3, 1) := by decide +kernel
theorem d_L_following_12 : decode c_L_following 12 = .ok (.iconst 1, 1) := by decide +kernel
theorem d_L_following_13 : decode c_L_following 13 = .ok (.ireturn, 1) := by decide +kernel
theorem d_L_following_14 : decode c_L_following 14 = .ok (.astore_n 3, 1) := by decide +kernel
theorem d_L_following_15 : decode c_L_following 15 = .ok (.iconst 2, 1) := by decide +kernel
theorem d_L_following_16 : decode c_L_following 16 = .ok (.ireturn, 1) := by decide +kernel
theorem d_L_following_17 : decode c_L_following 17 = .ok (.iconst 0, 1) := by decide +kernel
theorem d_L_following_18 : decode c_L_following 18 = .ok (.ireturn, 1) := by decide +kernel
theorem d_L_lets_0 : decode c_L_lets 0 = .ok (.aload_n 3, 1) := by decide +kernel
theorem d_L_lets_1 : decode c_L_lets 1 = .ok (.iconst 0, 1) := by decide +kernel
theorem d_L_lets_2 : decode c_L_lets 2 = .ok (.aload_n 0, 1) := by decide +kernel
theorem d_L_lets_3 : decode c_L_lets 3 = .ok (.iload_n 1, 1) := by decide +kernel
theorem d_L_lets_4 : decode c_L_lets 4 = .ok (.iload_n 2, 1) := by decide +kernel
theorem d_L_lets_5 : decode c_L_lets 5 = .ok (.invokevirtual 59, 3) := by decide +kernel
theorem d_L_lets_8 : decode c_L_lets 8 = .ok (.i2l, 1) := by decide +kernel
theorem d_L_lets_9 : decode c_L_lets 9 = .ok (.lastore, 1) := by decide +kernel
theorem d_L_lets_10 : decode c_L_lets 10 = .ok (.goto 15, 3) := by decide +kernel
theorem d_L_lets_13 : decode c_L_lets 13 = .ok (.astore 4, 2) := by decide +kernel
theorem d_L_lets_15 : decode c_L_lets 15 = .ok (.iconst 1, 1) := by decide +kernel
theorem d_L_lets_16 : decode c_L_lets 16 = .ok (.ireturn, 1) := by decide +kernel
theorem d_L_lets_17 : decode c_L_lets 17 = .ok (.astore 4, 2) := by decide +kernel
theorem d_L_lets_19 : decode c_L_lets 19 = .ok (.iconst 2, 1) := by decide +kernel
theorem d_L_lets_20 : decode c_L_lets 20 = .ok (.ireturn, 1) := by decide +kernel
theorem d_L_lets_21 : decode c_L_lets 21 = .ok (.astore 4, 2) := by decide +kernel
theorem d_L_lets_23 : decode c_L_lets 23 = .ok (.iconst 3, 1) := by decide +kernel
theorem d_L_lets_24 : decode c_L_lets 24 = .ok (.ireturn, 1) := by decide +kernel
theorem d_L_lets_25 : decode c_L_lets 25 = .ok (.iconst 0, 1) := by decide +kernel
theorem d_L_lets_26 : decode c_L_lets 26 = .ok (.ireturn, 1) := by decide +kernel
theorem d_L_count_0 : decode c_L_count 0 = .ok (.aload_n 2, 1) := by decide +kernel
theorem d_L_count_1 : decode c_L_count 1 = .ok (.iconst 0, 1) := by decide +kernel
theorem d_L_count_2 : decode c_L_count 2 = .ok (.aload_n 0, 1) := by decide +kernel
theorem d_L_count_3 : decode c_L_count 3 = .ok (.iload_n 1, 1) := by decide +kernel
theorem d_L_count_4 : decode c_L_count 4 = .ok (.invokevirtual 62, 3) := by decide +kernel
theorem d_L_count_7 : decode c_L_count 7 = .ok (.i2l, 1) := by decide +kernel
theorem d_L_count_8 : decode c_L_count 8 = .ok (.lastore, 1) := by decide +kernel
theorem d_L_count_9 : decode c_L_count 9 = .ok (.goto 6, 3) := by decide +kernel
theorem d_L_count_12 : decode c_L_count 12 = .ok (.astore_n 3, 1) := by decide +kernel
theorem d_L_count_13 : decode c_L_count 13 = .ok (.iconst 1, 1) := by decide +kernel
theorem d_L_count_14 : decode c_L_count 14 = .ok (.ireturn, 1) := by decide +kernel
theorem d_L_count_15 : decode c_L_count 15 = .ok (.iconst 0, 1) := by decide +kernel
theorem d_L_count_16 : decode c_L_count 16 = .ok (.ireturn, 1) := by decide +kernel
theorem d_L_law_0 : decode c_L_law 0 = .ok (.new 8, 3) := by decide +kernel
theorem d_L_law_3 : decode c_L_law 3 = .ok (.dup, 1) := by decide +kernel
theorem d_L_law_4 : decode c_L_law 4 = .ok (.invokespecial 65, 3) := by decide +kernel
theorem d_L_law_7 : decode c_L_law 7 = .ok (.astore_n 1, 1) := by decide +kernel
theorem d_L_law_8 : decode c_L_law 8 = .ok (.new 66, 3) := by decide +kernel
theorem d_L_law_11 : decode c_L_law 11 = .ok (.dup, 1) := by decide +kernel
theorem d_L_law_12 : decode c_L_law 12 = .ok (.invokespecial 68, 3) := by decide +kernel
theorem d_L_law_15 : decode c_L_law 15 = .ok (.astore_n 2, 1) := by decide +kernel
theorem d_L_law_16 : decode c_L_law 16 = .ok (.iconst 1, 1) := by decide +kernel
theorem d_L_law_17 : decode c_L_law 17 = .ok (.newarray .long, 2) := by decide +kernel
theorem d_L_law_19 : decode c_L_law 19 = .ok (.astore_n 3, 1) := by decide +kernel
theorem d_L_law_20 : decode c_L_law 20 = .ok (.iconst 0, 1) := by decide +kernel
theorem d_L_law_21 : decode c_L_law 21 = .ok (.istore 4, 2) := by decide +kernel
theorem d_L_law_23 : decode c_L_law 23 = .ok (.iload 4, 2) := by decide +kernel
theorem d_L_law_25 : decode c_L_law 25 = .ok (.aload_n 0, 1) := by decide +kernel
theorem d_L_law_26 : decode c_L_law 26 = .ok (.arraylength, 1) := by decide +kernel
theorem d_L_law_27 : decode c_L_law 27 = .ok (.iconst 3, 1) := by decide +kernel
theorem d_L_law_28 : decode c_L_law 28 = .ok (.isub, 1) := by decide +kernel
theorem d_L_law_29 : decode c_L_law 29 = .ok (.if_icmp .gt 921, 3) := by decide +kernel
theorem d_L_law_32 : decode c_L_law 32 = .ok (.aload_n 0, 1) := by decide +kernel
theorem d_L_law_33 : decode c_L_law 33 = .ok (.iload 4, 2) := by decide +kernel
theorem d_L_law_35 : decode c_L_law 35 = .ok (.iaload, 1) := by decide +kernel
theorem d_L_law_36 : decode c_L_law 36 = .ok (.bipush 31, 2) := by decide +kernel
theorem d_L_law_38 : decode c_L_law 38 = .ok (.iand, 1) := by decide +kernel
theorem d_L_law_39 : decode c_L_law 39 = .ok (.tableswitch 905 0 17 #[85, 129, 185, 253, 266, 279, 292, 348, 384, 428, 441, 509, 553, 608, 671, 726, 781, 849], 85) := by decide +kernel
theorem d_L_law_124 : decode c_L_law 124 = .ok (.aload_n 1, 1) := by decide +kernel
theorem d_L_law_125 : decode c_L_law 125 = .ok (.aload_n 3, 1) := by decide +kernel
theorem d_L_law_126 : decode c_L_law 126 = .ok (.invokestatic 69, 3) := by decide +kernel
theorem d_L_law_129 : decode c_L_law 129 = .ok (.istore 5, 2) := by decide +kernel
theorem d_L_law_131 : decode c_L_law 131 = .ok (.aload_n 2, 1) := by decide +kernel
theorem d_L_law_132 : decode c_L_law 132 = .ok (.invokevirtual 74, 3) := by decide +kernel
theorem d_L_law_135 : decode c_L_law 135 = .ok (.istore 6, 2) := by decide +kernel
theorem d_L_law_137 : decode c_L_law 137 = .ok (.aload_n 2, 1) := by decide +kernel
theorem d_L_law_138 : decode c_L_law 138 = .ok (.invokevirtual 75, 3) := by decide +kernel
theorem d_L_law_141 : decode c_L_law 141 = .ok (.iload 5, 2) := by decide +kernel
theorem d_L_law_143 : decode c_L_law 143 = .ok (.if_icmp .eq 5, 3) := by decide +kernel
theorem d_L_law_146 : decode c_L_law 146 = .ok (.iconst 0, 1) := by decide +kernel
theorem d_L_law_147 : decode c_L_law 147 = .ok (.ireturn, 1) := by decide +kernel
theorem d_L_law_148 : decode c_L_law 148 = .ok (.iload 5, 2) := by decide +kernel
theorem d_L_law_150 : decode c_L_law 150 = .ok (.ifCond .ne 15, 3) := by decide +kernel
theorem d_L_law_153 : decode c_L_law 153 = .ok (.aload_n 3, 1) := by decide +kernel
theorem d_L_law_154 : decode c_L_law 154 = .ok (.iconst 0, 1) := by decide +kernel
theorem d_L_law_155 : decode c_L_law 155 = .ok (.laload, 1) := by decide +kernel
theorem d_L_law_156 : decode c_L_law 156 = .ok (.iload 6, 2) := by decide +kernel
theorem d_L_law_158 : decode c_L_law 158 = .ok (.i2l, 1) := by decide +kernel
theorem d_L_law_159 : decode c_L_law 159 = .ok (.lcmp, 1) := by decide +kernel
theorem d_L_law_160 : decode c_L_law 160 = .ok (.ifCond .eq 5, 3) := by decide +kernel
theorem d_L_law_163 : decode c_L_law 163 = .ok (.iconst 0, 1) := by decide +kernel
theorem d_L_law_164 : decode c_L_law 164 = .ok (.ireturn, 1) := by decide +kernel
theorem d_L_law_165 : decode c_L_law 165 = .ok (.goto 779, 3) := by decide +kernel
theorem d_L_law_168 : decode c_L_law 168 = .ok (.aload_n 1, 1) := by decide +kernel
theorem d_L_law_169 : decode c_L_law 169 = .ok (.aload_n 0, 1) := by decide +kernel
theorem d_L_law_170 : decode c_L_law 170 = .ok (.iload 4, 2) := by decide +kernel
theorem d_L_law_172 : decode c_L_law 172 = .ok (.iconst 1, 1) := by decide +kernel
theorem d_L_law_173 : decode c_L_law 173 = .ok (.iadd, 1) := by decide +kernel
theorem d_L_law_174 : decode c_L_law 174 = .ok (.iaload, 1) := by decide +kernel
theorem d_L_law_175 : decode c_L_law 175 = .ok (.aload_n 3, 1) := by decide +kernel
theorem d_L_law_176 : decode c_L_law 176 = .ok (.invokestatic 78, 3) := by decide +kernel
theorem d_L_law_179 : decode c_L_law 179 = .ok (.istore 5, 2) := by decide +kernel
theorem d_L_law_181 : decode c_L_law 181 = .ok (.aload_n 2, 1) := by decide +kernel
theorem d_L_law_182 : decode c_L_law 182 = .ok (.aload_n 0, 1) := by decide +kernel
theorem d_L_law_183 : decode c_L_law 183 = .ok (.iload 4, 2) := by decide +kernel
theorem d_L_law_185 : decode c_L_law 185 = .ok (.iconst 1, 1) := by decide +kernel
theorem d_L_law_186 : decode c_L_law 186 = .ok (.iadd, 1) := by decide +kernel
theorem d_L_law_187 : decode c_L_law 187 = .ok (.iaload, 1) := by decide +kernel
theorem d_L_law_188 : decode c_L_law 188 = .ok (.invokevirtual 81, 3) := by decide +kernel
theorem d_L_law_191 : decode c_L_law 191 = .ok (.istore 6, 2) := by decide +kernel
theorem d_L_law_193 : decode c_L_law 193 = .ok (.aload_n 2, 1) := by decide +kernel
theorem d_L_law_194 : decode c_L_law 194 = .ok (.invokevirtual 75, 3) := by decide +kernel
theorem d_L_law_197 : decode c_L_law 197 = .ok (.iload 5, 2) := by decide +kernel
theorem d_L_law_199 : decode c_L_law 199 = .ok (.if_icmp .eq 5, 3) := by decide +kernel
theorem d_L_law_202 : decode c_L_law 202 = .ok (.iconst 0, 1) := by decide +kernel
theorem d_L_law_203 : decode c_L_law 203 = .ok (.ireturn, 1) := by decide +kernel
theorem d_L_law_204 : decode c_L_law 204 = .ok (.iload 5, 2) := by decide +kernel
theorem d_L_law_206 : decode c_L_law 206 = .ok (.ifCond .ne 15, 3) := by decide +kernel
theorem d_L_law_209 : decode c_L_law 209 = .ok (.aload_n 3, 1) := by decide +kernel
theorem d_L_law_210 : decode c_L_law 210 = .ok (.iconst 0, 1) := by decide +kernel
theorem d_L_law_211 : decode c_L_law 211 = .ok (.laload, 1) := by decide +kernel
theorem d_L_law_212 : decode c_L_law 212 = .ok (.iload 6, 2) := by decide +kernel
theorem d_L_law_214 : decode c_L_law 214 = .ok (.i2l, 1) := by decide +kernel
theorem d_L_law_215 : decode c_L_law 215 = .ok (.lcmp, 1) := by decide +kernel
theorem d_L_law_216 : decode c_L_law 216 = .ok (.ifCond .eq 5, 3) := by decide +kernel
theorem d_L_law_219 : decode c_L_law 219 = .ok (.iconst 0, 1) := by decide +kernel
theorem d_L_law_220 : decode c_L_law 220 = .ok (.ireturn, 1) := by decide +kernel
theorem d_L_law_221 : decode c_L_law 221 = .ok (.goto 723, 3) := by decide +kernel
theorem d_L_law_224 : decode c_L_law 224 = .ok (.aload_n 1, 1) := by decide +kernel
theorem d_L_law_225 : decode c_L_law 225 = .ok (.aload_n 0, 1) := by decide +kernel
theorem d_L_law_226 : decode c_L_law 226 = .ok (.iload 4, 2) := by decide +kernel
theorem d_L_law_228 : decode c_L_law 228 = .ok (.iconst 1, 1) := by decide +kernel
theorem d_L_law_229 : decode c_L_law 229 = .ok (.iadd, 1) := by decide +kernel
theorem d_L_law_230 : decode c_L_law 230 = .ok (.iaload, 1) := by decide +kernel
theorem d_L_law_231 : decode c_L_law 231 = .ok (.aload_n 0, 1) := by decide +kernel
theorem d_L_law_232 : decode c_L_law 232 = .ok (.iload 4, 2) := by decide +kernel
theorem d_L_law_234 : decode c_L_law 234 = .ok (.iconst 2, 1) := by decide +kernel
theorem d_L_law_235 : decode c_L_law 235 = .ok (.iadd, 1) := by decide +kernel
theorem d_L_law_236 : decode c_L_law 236 = .ok (.iaload, 1) := by decide +kernel
theorem d_L_law_237 : decode c_L_law 237 = .ok (.aload_n 3, 1) := by decide +kernel
theorem d_L_law_238 : decode c_L_law 238 = .ok (.invokestatic 82, 3) := by decide +kernel
theorem d_L_law_241 : decode c_L_law 241 = .ok (.istore 5, 2) := by decide +kernel
theorem d_L_law_243 : decode c_L_law 243 = .ok (.aload_n 2, 1) := by decide +kernel
theorem d_L_law_244 : decode c_L_law 244 = .ok (.aload_n 0, 1) := by decide +kernel
theorem d_L_law_245 : decode c_L_law 245 = .ok (.iload 4, 2) := by decide +kernel
theorem d_L_law_247 : decode c_L_law 247 = .ok (.iconst 1, 1) := by decide +kernel
theorem d_L_law_248 : decode c_L_law 248 = .ok (.iadd, 1) := by decide +kernel
theorem d_L_law_249 : decode c_L_law 249 = .ok (.iaload, 1) := by decide +kernel
theorem d_L_law_250 : decode c_L_law 250 = .ok (.aload_n 0, 1) := by decide +kernel
theorem d_L_law_251 : decode c_L_law 251 = .ok (.iload 4, 2) := by decide +kernel
theorem d_L_law_253 : decode c_L_law 253 = .ok (.iconst 2, 1) := by decide +kernel
theorem d_L_law_254 : decode c_L_law 254 = .ok (.iadd, 1) := by decide +kernel
theorem d_L_law_255 : decode c_L_law 255 = .ok (.iaload, 1) := by decide +kernel
theorem d_L_law_256 : decode c_L_law 256 = .ok (.invokevirtual 85, 3) := by decide +kernel
theorem d_L_law_259 : decode c_L_law 259 = .ok (.istore 6, 2) := by decide +kernel
theorem d_L_law_261 : decode c_L_law 261 = .ok (.aload_n 2, 1) := by decide +kernel
theorem d_L_law_262 : decode c_L_law 262 = .ok (.invokevirtual 75, 3) := by decide +kernel
theorem d_L_law_265 : decode c_L_law 265 = .ok (.iload 5, 2) := by decide +kernel
theorem d_L_law_267 : decode c_L_law 267 = .ok (.if_icmp .eq 5, 3) := by decide +kernel
theorem d_L_law_270 : decode c_L_law 270 = .ok (.iconst 0, 1) := by decide +kernel
theorem d_L_law_271 : decode c_L_law 271 = .ok (.ireturn, 1) := by decide +kernel
theorem d_L_law_272 : decode c_L_law 272 = .ok (.iload 5, 2) := by decide +kernel
theorem d_L_law_274 : decode c_L_law 274 = .ok (.ifCond .ne 15, 3) := by decide +kernel
theorem d_L_law_277 : decode c_L_law 277 = .ok (.aload_n 3, 1) := by decide +kernel
theorem d_L_law_278 : decode c_L_law 278 = .ok (.iconst 0, 1) := by decide +kernel
theorem d_L_law_279 : decode c_L_law 279 = .ok (.laload, 1) := by decide +kernel
theorem d_L_law_280 : decode c_L_law 280 = .ok (.iload 6, 2) := by decide +kernel
theorem d_L_law_282 : decode c_L_law 282 = .ok (.i2l, 1) := by decide +kernel
theorem d_L_law_283 : decode c_L_law 283 = .ok (.lcmp, 1) := by decide +kernel
theorem d_L_law_284 : decode c_L_law 284 = .ok (.ifCond .eq 5, 3) := by decide +kernel
theorem d_L_law_287 : decode c_L_law 287 = .ok (.iconst 0, 1) := by decide +kernel
theorem d_L_law_288 : decode c_L_law 288 = .ok (.ireturn, 1) := by decide +kernel
theorem d_L_law_289 : decode c_L_law 289 = .ok (.goto 655, 3) := by decide +kernel
theorem d_L_law_292 : decode c_L_law 292 = .ok (.aload_n 1, 1) := by decide +kernel
theorem d_L_law_293 : decode c_L_law 293 = .ok (.invokevirtual 86, 3) := by decide +kernel
theorem d_L_law_296 : decode c_L_law 296 = .ok (.aload_n 2, 1) := by decide +kernel
theorem d_L_law_297 : decode c_L_law 297 = .ok (.invokevirtual 89, 3) := by decide +kernel
theorem d_L_law_300 : decode c_L_law 300 = .ok (.if_icmp .eq 644, 3) := by decide +kernel
theorem d_L_law_303 : decode c_L_law 303 = .ok (.iconst 0, 1) := by decide +kernel
theorem d_L_law_304 : decode c_L_law 304 = .ok (.ireturn, 1) := by decide +kernel
theorem d_L_law_305 : decode c_L_law 305 = .ok (.aload_n 1, 1) := by decide +kernel
theorem d_L_law_306 : decode c_L_law 306 = .ok (.invokevirtual 90, 3) := by decide +kernel
theorem d_L_law_309 : decode c_L_law 309 = .ok (.aload_n 2, 1) := by decide +kernel
theorem d_L_law_310 : decode c_L_law 310 = .ok (.invokevirtual 93, 3) := by decide +kernel
theorem d_L_law_313 : decode c_L_law 313 = .ok (.if_icmp .eq 631, 3) := by decide +kernel
theorem d_L_law_316 : decode c_L_law 316 = .ok (.iconst 0, 1) := by decide +kernel
theorem d_L_law_317 : decode c_L_law 317 = .ok (.ireturn, 1) := by decide +kernel
theorem d_L_law_318 : decode c_L_law 318 = .ok (.aload_n 1, 1) := by decide +kernel
theorem d_L_law_319 : decode c_L_law 319 = .ok (.invokevirtual 94, 3) := by decide +kernel
theorem d_L_law_322 : decode c_L_law 322 = .ok (.aload_n 2, 1) := by decide +kernel
theorem d_L_law_323 : decode c_L_law 323 = .ok (.invokevirtual 97, 3) := by decide +kernel
theorem d_L_law_326 : decode c_L_law 326 = .ok (.if_icmp .eq 618, 3) := by decide +kernel
theorem d_L_law_329 : decode c_L_law 329 = .ok (.iconst 0, 1) := by decide +kernel
theorem d_L_law_330 : decode c_L_law 330 = .ok (.ireturn, 1) := by decide +kernel
theorem d_L_law_331 : decode c_L_law 331 = .ok (.aload_n 1, 1) := by decide +kernel
theorem d_L_law_332 : decode c_L_law 332 = .ok (.aload_n 0, 1) := by decide +kernel
theorem d_L_law_333 : decode c_L_law 333 = .ok (.iload 4, 2) := by decide +kernel
theorem d_L_law_335 : decode c_L_law 335 = .ok (.iconst 1, 1) := by decide +kernel
theorem d_L_law_336 : decode c_L_law 336 = .ok (.iadd, 1) := by decide +kernel
theorem d_L_law_337 : decode c_L_law 337 = .ok (.iaload, 1) := by decide +kernel
theorem d_L_law_338 : decode c_L_law 338 = .ok (.aload_n 3, 1) := by decide +kernel
theorem d_L_law_339 : decode c_L_law 339 = .ok (.invokestatic 98, 3) := by decide +kernel
theorem d_L_law_342 : decode c_L_law 342 = .ok (.istore 5, 2) := by decide +kernel
theorem d_L_law_344 : decode c_L_law 344 = .ok (.aload_n 2, 1) := by decide +kernel
theorem d_L_law_345 : decode c_L_law 345 = .ok (.aload_n 0, 1) := by decide +kernel
theorem d_L_law_346 : decode c_L_law 346 = .ok (.iload 4, 2) := by decide +kernel
theorem d_L_law_348 : decode c_L_law 348 = .ok (.iconst 1, 1) := by decide +kernel
theorem d_L_law_349 : decode c_L_law 349 = .ok (.iadd, 1) := by decide +kernel
theorem d_L_law_350 : decode c_L_law 350 = .ok (.iaload, 1) := by decide +kernel
theorem d_L_law_351 : decode c_L_law 351 = .ok (.invokevirtual 100, 3) := by decide +kernel
theorem d_L_law_354 : decode c_L_law 354 = .ok (.istore 6, 2) := by decide +kernel
theorem d_L_law_356 : decode c_L_law 356 = .ok (.aload_n 2, 1) := by decide +kernel
theorem d_L_law_357 : decode c_L_law 357 = .ok (.invokevirtual 75, 3) := by decide +kernel
theorem d_L_law_360 : decode c_L_law 360 = .ok (.iload 5, 2) := by decide +kernel
theorem d_L_law_362 : decode c_L_law 362 = .ok (.if_icmp .eq 5, 3) := by decide +kernel
theorem d_L_law_365 : decode c_L_law 365 = .ok (.iconst 0, 1) := by decide +kernel
theorem d_L_law_366 : decode c_L_law 366 = .ok (.ireturn, 1) := by decide +kernel
theorem d_L_law_367 : decode c_L_law 367 = .ok (.iload 5, 2) := by decide +kernel
theorem d_L_law_369 : decode c_L_law 369 = .ok (.ifCond .ne 15, 3) := by decide +kernel
theorem d_L_law_372 : decode c_L_law 372 = .ok (.aload_n 3, 1) := by decide +kernel
theorem d_L_law_373 : decode c_L_law 373 = .ok (.iconst 0, 1) := by decide +kernel
theorem d_L_law_374 : decode c_L_law 374 = .ok (.laload, 1) := by decide +kernel
theorem d_L_law_375 : decode c_L_law 375 = .ok (.iload 6, 2) := by decide +kernel
theorem d_L_law_377 : decode c_L_law 377 = .ok (.i2l, 1) := by decide +kernel
theorem d_L_law_378 : decode c_L_law 378 = .ok (.lcmp, 1) := by decide +kernel
theorem d_L_law_379 : decode c_L_law 379 = .ok (.ifCond .eq 5, 3) := by decide +kernel
theorem d_L_law_382 : decode c_L_law 382 = .ok (.iconst 0, 1) := by decide +kernel
theorem d_L_law_383 : decode c_L_law 383 = .ok (.ireturn, 1) := by decide +kernel
theorem d_L_law_384 : decode c_L_law 384 = .ok (.goto 560, 3) := by decide +kernel
theorem d_L_law_387 : decode c_L_law 387 = .ok (.aload_n 1, 1) := by decide +kernel
theorem d_L_law_388 : decode c_L_law 388 = .ok (.aload_n 0, 1) := by decide +kernel
theorem d_L_law_389 : decode c_L_law 389 = .ok (.iload 4, 2) := by decide +kernel
theorem d_L_law_391 : decode c_L_law 391 = .ok (.iconst 1, 1) := by decide +kernel
theorem d_L_law_392 : decode c_L_law 392 = .ok (.iadd, 1) := by decide +kernel
theorem d_L_law_393 : decode c_L_law 393 = .ok (.iaload, 1) := by decide +kernel
theorem d_L_law_394 : decode c_L_law 394 = .ok (.invokestatic 101, 3) := by decide +kernel
theorem d_L_law_397 : decode c_L_law 397 = .ok (.istore 5, 2) := by decide +kernel
theorem d_L_law_399 : decode c_L_law 399 = .ok (.aload_n 2, 1) := by decide +kernel
theorem d_L_law_400 : decode c_L_law 400 = .ok (.aload_n 0, 1) := by decide +kernel
theorem d_L_law_401 : decode c_L_law 401 = .ok (.iload 4, 2) := by decide +kernel
theorem d_L_law_403 : decode c_L_law 403 = .ok (.iconst 1, 1) := by decide +kernel
theorem d_L_law_404 : decode c_L_law 404 = .ok (.iadd, 1) := by decide +kernel
theorem d_L_law_405 : decode c_L_law 405 = .ok (.iaload, 1) := by decide +kernel
theorem d_L_law_406 : decode c_L_law 406 = .ok (.invokevirtual 104, 3) := by decide +kernel
theorem d_L_law_409 : decode c_L_law 409 = .ok (.aload_n 2, 1) := by decide +kernel
theorem d_L_law_410 : decode c_L_law 410 = .ok (.invokevirtual 75, 3) := by decide +kernel
theorem d_L_law_413 : decode c_L_law 413 = .ok (.iload 5, 2) := by decide +kernel
theorem d_L_law_415 : decode c_L_law 415 = .ok (.if_icmp .eq 5, 3) := by decide +kernel
theorem d_L_law_418 : decode c_L_law 418 = .ok (.iconst 0, 1) := by decide +kernel
theorem d_L_law_419 : decode c_L_law 419 = .ok (.ireturn, 1) := by decide +kernel
theorem d_L_law_420 : decode c_L_law 420 = .ok (.goto 524, 3) := by decide +kernel
theorem d_L_law_423 : decode c_L_law 423 = .ok (.aload_n 1, 1) := by decide +kernel
theorem d_L_law_424 : decode c_L_law 424 = .ok (.aload_n 3, 1) := by decide +kernel
theorem d_L_law_425 : decode c_L_law 425 = .ok (.invokestatic 105, 3) := by decide +kernel
theorem d_L_law_428 : decode c_L_law 428 = .ok (.istore 5, 2) := by decide +kernel
theorem d_L_law_430 : decode c_L_law 430 = .ok (.aload_n 2, 1) := by decide +kernel
theorem d_L_law_431 : decode c_L_law 431 = .ok (.invokevirtual 107, 3) := by decide +kernel
theorem d_L_law_434 : decode c_L_law 434 = .ok (.istore 6, 2) := by decide +kernel
theorem d_L_law_436 : decode c_L_law 436 = .ok (.aload_n 2, 1) := by decide +kernel
theorem d_L_law_437 : decode c_L_law 437 = .ok (.invokevirtual 75, 3) := by decide +kernel
theorem d_L_law_440 : decode c_L_law 440 = .ok (.iload 5, 2) := by decide +kernel
theorem d_L_law_442 : decode c_L_law 442 = .ok (.if_icmp .eq 5, 3) := by decide +kernel
theorem d_L_law_445 : decode c_L_law 445 = .ok (.iconst 0, 1) := by decide +kernel
theorem d_L_law_446 : decode c_L_law 446 = .ok (.ireturn, 1) := by decide +kernel
theorem d_L_law_447 : decode c_L_law 447 = .ok (.iload 5, 2) := by decide +kernel
theorem d_L_law_449 : decode c_L_law 449 = .ok (.ifCond .ne 15, 3) := by decide +kernel
theorem d_L_law_452 : decode c_L_law 452 = .ok (.aload_n 3, 1) := by decide +kernel
theorem d_L_law_453 : decode c_L_law 453 = .ok (.iconst 0, 1) := by decide +kernel
theorem d_L_law_454 : decode c_L_law 454 = .ok (.laload, 1) := by decide +kernel
theorem d_L_law_455 : decode c_L_law 455 = .ok (.iload 6, 2) := by decide +kernel
theorem d_L_law_457 : decode c_L_law 457 = .ok (.i2l, 1) := by decide +kernel
theorem d_L_law_458 : decode c_L_law 458 = .ok (.lcmp, 1) := by decide +kernel
theorem d_L_law_459 : decode c_L_law 459 = .ok (.ifCond .eq 5, 3) := by decide +kernel
theorem d_L_law_462 : decode c_L_law 462 = .ok (.iconst 0, 1) := by decide +kernel
theorem d_L_law_463 : decode c_L_law 463 = .ok (.ireturn, 1) := by decide +kernel
theorem d_L_law_464 : decode c_L_law 464 = .ok (.goto 480, 3) := by decide +kernel
theorem d_L_law_467 : decode c_L_law 467 = .ok (.aload_n 1, 1) := by decide +kernel
theorem d_L_law_468 : decode c_L_law 468 = .ok (.invokevirtual 108, 3) := by decide +kernel
theorem d_L_law_471 : decode c_L_law 471 = .ok (.aload_n 2, 1) := by decide +kernel
theorem d_L_law_472 : decode c_L_law 472 = .ok (.invokevirtual 111, 3) := by decide +kernel
theorem d_L_law_475 : decode c_L_law 475 = .ok (.if_icmp .eq 469, 3) := by decide +kernel
theorem d_L_law_478 : decode c_L_law 478 = .ok (.iconst 0, 1) := by decide +kernel
theorem d_L_law_479 : decode c_L_law 479 = .ok (.ireturn, 1) := by decide +kernel
theorem d_L_law_480 : decode c_L_law 480 = .ok (.aload_n 1, 1) := by decide +kernel
theorem d_L_law_481 : decode c_L_law 481 = .ok (.aload_n 0, 1) := by decide +kernel
theorem d_L_law_482 : decode c_L_law 482 = .ok (.iload 4, 2) := by decide +kernel
theorem d_L_law_484 : decode c_L_law 484 = .ok (.iconst 1, 1) := by decide +kernel
theorem d_L_law_485 : decode c_L_law 485 = .ok (.iadd, 1) := by decide +kernel
theorem d_L_law_486 : decode c_L_law 486 = .ok (.iaload, 1) := by decide +kernel
theorem d_L_law_487 : decode c_L_law 487 = .ok (.aload_n 0, 1) := by decide +kernel
theorem d_L_law_488 : decode c_L_law 488 = .ok (.iload 4, 2) := by decide +kernel
theorem d_L_law_490 : decode c_L_law 490 = .ok (.iconst 2, 1) := by decide +kernel
theorem d_L_law_491 : decode c_L_law 491 = .ok (.iadd, 1) := by decide +kernel
theorem d_L_law_492 : decode c_L_law 492 = .ok (.iaload, 1) := by decide +kernel
theorem d_L_law_493 : decode c_L_law 493 = .ok (.aload_n 3, 1) := by decide +kernel
theorem d_L_law_494 : decode c_L_law 494 = .ok (.invokestatic 112, 3) := by decide +kernel
theorem d_L_law_497 : decode c_L_law 497 = .ok (.istore 5, 2) := by decide +kernel
theorem d_L_law_499 : decode c_L_law 499 = .ok (.aload_n 2, 1) := by decide +kernel
theorem d_L_law_500 : decode c_L_law 500 = .ok (.aload_n 0, 1) := by decide +kernel
theorem d_L_law_501 : decode c_L_law 501 = .ok (.iload 4, 2) := by decide +kernel
theorem d_L_law_503 : decode c_L_law 503 = .ok (.iconst 1, 1) := by decide +kernel
theorem d_L_law_504 : decode c_L_law 504 = .ok (.iadd, 1) := by decide +kernel
theorem d_L_law_505 : decode c_L_law 505 = .ok (.iaload, 1) := by decide +kernel
theorem d_L_law_506 : decode c_L_law 506 = .ok (.aload_n 0, 1) := by decide +kernel
theorem d_L_law_507 : decode c_L_law 507 = .ok (.iload 4, 2) := by decide +kernel
theorem d_L_law_509 : decode c_L_law 509 = .ok (.iconst 2, 1) := by decide +kernel
theorem d_L_law_510 : decode c_L_law 510 = .ok (.iadd, 1) := by decide +kernel
theorem d_L_law_511 : decode c_L_law 511 = .ok (.iaload, 1) := by decide +kernel
theorem d_L_law_512 : decode c_L_law 512 = .ok (.invokevirtual 114, 3) := by decide +kernel
theorem d_L_law_515 : decode c_L_law 515 = .ok (.istore 6, 2) := by decide +kernel
theorem d_L_law_517 : decode c_L_law 517 = .ok (.aload_n 2, 1) := by decide +kernel
theorem d_L_law_518 : decode c_L_law 518 = .ok (.invokevirtual 75, 3) := by decide +kernel
theorem d_L_law_521 : decode c_L_law 521 = .ok (.iload 5, 2) := by decide +kernel
theorem d_L_law_523 : decode c_L_law 523 = .ok (.if_icmp .eq 5, 3) := by decide +kernel
theorem d_L_law_526 : decode c_L_law 526 = .ok (.iconst 0, 1) := by decide +kernel
theorem d_L_law_527 : decode c_L_law 527 = .ok (.ireturn, 1) := by decide +kernel
theorem d_L_law_528 : decode c_L_law 528 = .ok (.iload 5, 2) := by decide +kernel
theorem d_L_law_530 : decode c_L_law 530 = .ok (.ifCond .ne 15, 3) := by decide +kernel
theorem d_L_law_533 : decode c_L_law 533 = .ok (.aload_n 3, 1) := by decide +kernel
theorem d_L_law_534 : decode c_L_law 534 = .ok (.iconst 0, 1) := by decide +kernel
theorem d_L_law_535 : decode c_L_law 535 = .ok (.laload, 1) := by decide +kernel
theorem d_L_law_536 : decode c_L_law 536 = .ok (.iload 6, 2) := by decide +kernel
theorem d_L_law_538 : decode c_L_law 538 = .ok (.i2l, 1) := by decide +kernel
theorem d_L_law_539 : decode c_L_law 539 = .ok (.lcmp, 1) := by decide +kernel
theorem d_L_law_540 : decode c_L_law 540 = .ok (.ifCond .eq 5, 3) := by decide +kernel
theorem d_L_law_543 : decode c_L_law 543 = .ok (.iconst 0, 1) := by decide +kernel
theorem d_L_law_544 : decode c_L_law 544 = .ok (.ireturn, 1) := by decide +kernel
theorem d_L_law_545 : decode c_L_law 545 = .ok (.goto 399, 3) := by decide +kernel
theorem d_L_law_548 : decode c_L_law 548 = .ok (.aload_n 1, 1) := by decide +kernel
theorem d_L_law_549 : decode c_L_law 549 = .ok (.aload_n 3, 1) := by decide +kernel
theorem d_L_law_550 : decode c_L_law 550 = .ok (.invokestatic 115, 3) := by decide +kernel
theorem d_L_law_553 : decode c_L_law 553 = .ok (.istore 5, 2) := by decide +kernel
theorem d_L_law_555 : decode c_L_law 555 = .ok (.aload_n 2, 1) := by decide +kernel
theorem d_L_law_556 : decode c_L_law 556 = .ok (.invokevirtual 117, 3) := by decide +kernel
theorem d_L_law_559 : decode c_L_law 559 = .ok (.istore 6, 2) := by decide +kernel
theorem d_L_law_561 : decode c_L_law 561 = .ok (.aload_n 2, 1) := by decide +kernel
theorem d_L_law_562 : decode c_L_law 562 = .ok (.invokevirtual 75, 3) := by decide +kernel
theorem d_L_law_565 : decode c_L_law 565 = .ok (.iload 5, 2) := by decide +kernel
theorem d_L_law_567 : decode c_L_law 567 = .ok (.if_icmp .eq 5, 3) := by decide +kernel
theorem d_L_law_570 : decode c_L_law 570 = .ok (.iconst 0, 1) := by decide +kernel
theorem d_L_law_571 : decode c_L_law 571 = .ok (.ireturn, 1) := by decide +kernel
theorem d_L_law_572 : decode c_L_law 572 = .ok (.iload 5, 2) := by decide +kernel
theorem d_L_law_574 : decode c_L_law 574 = .ok (.ifCond .ne 15, 3) := by decide +kernel
theorem d_L_law_577 : decode c_L_law 577 = .ok (.aload_n 3, 1) := by decide +kernel
theorem d_L_law_578 : decode c_L_law 578 = .ok (.iconst 0, 1) := by decide +kernel
theorem d_L_law_579 : decode c_L_law 579 = .ok (.laload, 1) := by decide +kernel
theorem d_L_law_580 : decode c_L_law 580 = .ok (.iload 6, 2) := by decide +kernel
theorem d_L_law_582 : decode c_L_law 582 = .ok (.i2l, 1) := by decide +kernel
theorem d_L_law_583 : decode c_L_law 583 = .ok (.lcmp, 1) := by decide +kernel
theorem d_L_law_584 : decode c_L_law 584 = .ok (.ifCond .eq 5, 3) := by decide +kernel
theorem d_L_law_587 : decode c_L_law 587 = .ok (.iconst 0, 1) := by decide +kernel
theorem d_L_law_588 : decode c_L_law 588 = .ok (.ireturn, 1) := by decide +kernel
theorem d_L_law_589 : decode c_L_law 589 = .ok (.goto 355, 3) := by decide +kernel
theorem d_L_law_592 : decode c_L_law 592 = .ok (.aload_n 1, 1) := by decide +kernel
theorem d_L_law_593 : decode c_L_law 593 = .ok (.aload_n 0, 1) := by decide +kernel
theorem d_L_law_594 : decode c_L_law 594 = .ok (.iload 4, 2) := by decide +kernel
theorem d_L_law_596 : decode c_L_law 596 = .ok (.iconst 1, 1) := by decide +kernel
theorem d_L_law_597 : decode c_L_law 597 = .ok (.iadd, 1) := by decide +kernel
theorem d_L_law_598 : decode c_L_law 598 = .ok (.iaload, 1) := by decide +kernel
theorem d_L_law_599 : decode c_L_law 599 = .ok (.aload_n 3, 1) := by decide +kernel
theorem d_L_law_600 : decode c_L_law 600 = .ok (.invokestatic 118, 3) := by decide +kernel
theorem d_L_law_603 : decode c_L_law 603 = .ok (.istore 5, 2) := by decide +kernel
theorem d_L_law_605 : decode c_L_law 605 = .ok (.aload_n 2, 1) := by decide +kernel
theorem d_L_law_606 : decode c_L_law 606 = .ok (.aload_n 0, 1) := by decide +kernel
theorem d_L_law_607 : decode c_L_law 607 = .ok (.iload 4, 2) := by decide +kernel
theorem d_L_law_609 : decode c_L_law 609 = .ok (.iconst 1, 1) := by decide +kernel
theorem d_L_law_610 : decode c_L_law 610 = .ok (.iadd, 1) := by decide +kernel
theorem d_L_law_611 : decode c_L_law 611 = .ok (.iaload, 1) := by decide +kernel
theorem d_L_law_612 : decode c_L_law 612 = .ok (.invokevirtual 120, 3) := by decide +kernel
theorem d_L_law_615 : decode c_L_law 615 = .ok (.lstore 6, 2) := by decide +kernel
theorem d_L_law_617 : decode c_L_law 617 = .ok (.aload_n 2, 1) := by decide +kernel
theorem d_L_law_618 : decode c_L_law 618 = .ok (.invokevirtual 75, 3) := by decide +kernel
theorem d_L_law_621 : decode c_L_law 621 = .ok (.iload 5, 2) := by decide +kernel
theorem d_L_law_623 : decode c_L_law 623 = .ok (.if_icmp .eq 5, 3) := by decide +kernel
theorem d_L_law_626 : decode c_L_law 626 = .ok (.iconst 0, 1) := by decide +kernel
theorem d_L_law_627 : decode c_L_law 627 = .ok (.ireturn, 1) := by decide +kernel
theorem d_L_law_628 : decode c_L_law 628 = .ok (.iload 5, 2) := by decide +kernel
theorem d_L_law_630 : decode c_L_law 630 = .ok (.ifCond .ne 14, 3) := by decide +kernel
theorem d_L_law_633 : decode c_L_law 633 = .ok (.aload_n 3, 1) := by decide +kernel
theorem d_L_law_634 : decode c_L_law 634 = .ok (.iconst 0, 1) := by decide +kernel
theorem d_L_law_635 : decode c_L_law 635 = .ok (.laload, 1) := by decide +kernel
theorem d_L_law_636 : decode c_L_law 636 = .ok (.lload 6, 2) := by decide +kernel
theorem d_L_law_638 : decode c_L_law 638 = .ok (.lcmp, 1) := by decide +kernel
theorem d_L_law_639 : decode c_L_law 639 = .ok (.ifCond .eq 5, 3) := by decide +kernel
theorem d_L_law_642 : decode c_L_law 642 = .ok (.iconst 0, 1) := by decide +kernel
theorem d_L_law_643 : decode c_L_law 643 = .ok (.ireturn, 1) := by decide +kernel
theorem d_L_law_644 : decode c_L_law 644 = .ok (.goto 300, 3) := by decide +kernel
theorem d_L_law_647 : decode c_L_law 647 = .ok (.aload_n 1, 1) := by decide +kernel
theorem d_L_law_648 : decode c_L_law 648 = .ok (.aload_n 0, 1) := by decide +kernel
theorem d_L_law_649 : decode c_L_law 649 = .ok (.iload 4, 2) := by decide +kernel
theorem d_L_law_651 : decode c_L_law 651 = .ok (.iconst 1, 1) := by decide +kernel
theorem d_L_law_652 : decode c_L_law 652 = .ok (.iadd, 1) := by decide +kernel
theorem d_L_law_653 : decode c_L_law 653 = .ok (.iaload, 1) := by decide +kernel
theorem d_L_law_654 : decode c_L_law 654 = .ok (.aload_n 3, 1) := by decide +kernel
theorem d_L_law_655 : decode c_L_law 655 = .ok (.invokestatic 121, 3) := by decide +kernel
theorem d_L_law_658 : decode c_L_law 658 = .ok (.istore 5, 2) := by decide +kernel
theorem d_L_law_660 : decode c_L_law 660 = .ok (.aload_n 2, 1) := by decide +kernel
theorem d_L_law_661 : decode c_L_law 661 = .ok (.aload_n 0, 1) := by decide +kernel
theorem d_L_law_662 : decode c_L_law 662 = .ok (.iload 4, 2) := by decide +kernel
theorem d_L_law_664 : decode c_L_law 664 = .ok (.iconst 1, 1) := by decide +kernel
theorem d_L_law_665 : decode c_L_law 665 = .ok (.iadd, 1) := by decide +kernel
theorem d_L_law_666 : decode c_L_law 666 = .ok (.iaload, 1) := by decide +kernel
theorem d_L_law_667 : decode c_L_law 667 = .ok (.invokevirtual 123, 3) := by decide +kernel
theorem d_L_law_670 : decode c_L_law 670 = .ok (.istore 6, 2) := by decide +kernel
theorem d_L_law_672 : decode c_L_law 672 = .ok (.aload_n 2, 1) := by decide +kernel
theorem d_L_law_673 : decode c_L_law 673 = .ok (.invokevirtual 75, 3) := by decide +kernel
theorem d_L_law_676 : decode c_L_law 676 = .ok (.iload 5, 2) := by decide +kernel
theorem d_L_law_678 : decode c_L_law 678 = .ok (.if_icmp .eq 5, 3) := by decide +kernel
theorem d_L_law_681 : decode c_L_law 681 = .ok (.iconst 0, 1) := by decide +kernel
theorem d_L_law_682 : decode c_L_law 682 = .ok (.ireturn, 1) := by decide +kernel
theorem d_L_law_683 : decode c_L_law 683 = .ok (.iload 5, 2) := by decide +kernel
theorem d_L_law_685 : decode c_L_law 685 = .ok (.ifCond .ne 22, 3) := by decide +kernel
theorem d_L_law_688 : decode c_L_law 688 = .ok (.aload_n 3, 1) := by decide +kernel
theorem d_L_law_689 : decode c_L_law 689 = .ok (.iconst 0, 1) := by decide +kernel
theorem d_L_law_690 : decode c_L_law 690 = .ok (.laload, 1) := by decide +kernel
theorem d_L_law_691 : decode c_L_law 691 = .ok (.iload 6, 2) := by decide +kernel
theorem d_L_law_693 : decode c_L_law 693 = .ok (.ifCond .eq 7, 3) := by decide +kernel
theorem d_L_law_696 : decode c_L_law 696 = .ok (.lconst 1, 1) := by decide +kernel
theorem d_L_law_697 : decode c_L_law 697 = .ok (.goto 4, 3) := by decide +kernel
theorem d_L_law_700 : decode c_L_law 700 = .ok (.lconst 0, 1) := by decide +kernel
theorem d_L_law_701 : decode c_L_law 701 = .ok (.lcmp, 1) := by decide +kernel
theorem d_L_law_702 : decode c_L_law 702 = .ok (.ifCond .eq 5, 3) := by decide +kernel
theorem d_L_law_705 : decode c_L_law 705 = .ok (.iconst 0, 1) := by decide +kernel
theorem d_L_law_706 : decode c_L_law 706 = .ok (.ireturn, 1) := by decide +kernel
theorem d_L_law_707 : decode c_L_law 707 = .ok (.goto 237, 3) := by decide +kernel
theorem d_L_law_710 : decode c_L_law 710 = .ok (.aload_n 1, 1) := by decide +kernel
theorem d_L_law_711 : decode c_L_law 711 = .ok (.aload_n 0, 1) := by decide +kernel
theorem d_L_law_712 : decode c_L_law 712 = .ok (.iload 4, 2) := by decide +kernel
theorem d_L_law_714 : decode c_L_law 714 = .ok (.iconst 1, 1) := by decide +kernel
theorem d_L_law_715 : decode c_L_law 715 = .ok (.iadd, 1) := by decide +kernel
theorem d_L_law_716 : decode c_L_law 716 = .ok (.iaload, 1) := by decide +kernel
theorem d_L_law_717 : decode c_L_law 717 = .ok (.aload_n 3, 1) := by decide +kernel
theorem d_L_law_718 : decode c_L_law 718 = .ok (.invokestatic 124, 3) := by decide +kernel
theorem d_L_law_721 : decode c_L_law 721 = .ok (.istore 5, 2) := by decide +kernel
theorem d_L_law_723 : decode c_L_law 723 = .ok (.aload_n 2, 1) := by decide +kernel
theorem d_L_law_724 : decode c_L_law 724 = .ok (.aload_n 0, 1) := by decide +kernel
theorem d_L_law_725 : decode c_L_law 725 = .ok (.iload 4, 2) := by decide +kernel
theorem d_L_law_727 : decode c_L_law 727 = .ok (.iconst 1, 1) := by decide +kernel
theorem d_L_law_728 : decode c_L_law 728 = .ok (.iadd, 1) := by decide +kernel
theorem d_L_law_729 : decode c_L_law 729 = .ok (.iaload, 1) := by decide +kernel
theorem d_L_law_730 : decode c_L_law 730 = .ok (.invokevirtual 126, 3) := by decide +kernel
theorem d_L_law_733 : decode c_L_law 733 = .ok (.lstore 6, 2) := by decide +kernel
theorem d_L_law_735 : decode c_L_law 735 = .ok (.aload_n 2, 1) := by decide +kernel
theorem d_L_law_736 : decode c_L_law 736 = .ok (.invokevirtual 75, 3) := by decide +kernel
theorem d_L_law_739 : decode c_L_law 739 = .ok (.iload 5, 2) := by decide +kernel
theorem d_L_law_741 : decode c_L_law 741 = .ok (.if_icmp .eq 5, 3) := by decide +kernel
theorem d_L_law_744 : decode c_L_law 744 = .ok (.iconst 0, 1) := by decide +kernel
theorem d_L_law_745 : decode c_L_law 745 = .ok (.ireturn, 1) := by decide +kernel
theorem d_L_law_746 : decode c_L_law 746 = .ok (.iload 5, 2) := by decide +kernel
theorem d_L_law_748 : decode c_L_law 748 = .ok (.ifCond .ne 14, 3) := by decide +kernel
theorem d_L_law_751 : decode c_L_law 751 = .ok (.aload_n 3, 1) := by decide +kernel
theorem d_L_law_752 : decode c_L_law 752 = .ok (.iconst 0, 1) := by decide +kernel
theorem d_L_law_753 : decode c_L_law 753 = .ok (.laload, 1) := by decide +kernel
theorem d_L_law_754 : decode c_L_law 754 = .ok (.lload 6, 2) := by decide +kernel
theorem d_L_law_756 : decode c_L_law 756 = .ok (.lcmp, 1) := by decide +kernel
theorem d_L_law_757 : decode c_L_law 757 = .ok (.ifCond .eq 5, 3) := by decide +kernel
theorem d_L_law_760 : decode c_L_law 760 = .ok (.iconst 0, 1) := by decide +kernel
theorem d_L_law_761 : decode c_L_law 761 = .ok (.ireturn, 1) := by decide +kernel
theorem d_L_law_762 : decode c_L_law 762 = .ok (.goto 182, 3) := by decide +kernel
theorem d_L_law_765 : decode c_L_law 765 = .ok (.aload_n 1, 1) := by decide +kernel
theorem d_L_law_766 : decode c_L_law 766 = .ok (.aload_n 0, 1) := by decide +kernel
theorem d_L_law_767 : decode c_L_law 767 = .ok (.iload 4, 2) := by decide +kernel
theorem d_L_law_769 : decode c_L_law 769 = .ok (.iconst 1, 1) := by decide +kernel
theorem d_L_law_770 : decode c_L_law 770 = .ok (.iadd, 1) := by decide +kernel
theorem d_L_law_771 : decode c_L_law 771 = .ok (.iaload, 1) := by decide +kernel
theorem d_L_law_772 : decode c_L_law 772 = .ok (.aload_n 3, 1) := by decide +kernel
theorem d_L_law_773 : decode c_L_law 773 = .ok (.invokestatic 127, 3) := by decide +kernel
theorem d_L_law_776 : decode c_L_law 776 = .ok (.istore 5, 2) := by decide +kernel
theorem d_L_law_778 : decode c_L_law 778 = .ok (.aload_n 2, 1) := by decide +kernel
theorem d_L_law_779 : decode c_L_law 779 = .ok (.aload_n 0, 1) := by decide +kernel
theorem d_L_law_780 : decode c_L_law 780 = .ok (.iload 4, 2) := by decide +kernel
theorem d_L_law_782 : decode c_L_law 782 = .ok (.iconst 1, 1) := by decide +kernel
theorem d_L_law_783 : decode c_L_law 783 = .ok (.iadd, 1) := by decide +kernel
theorem d_L_law_784 : decode c_L_law 784 = .ok (.iaload, 1) := by decide +kernel
theorem d_L_law_785 : decode c_L_law 785 = .ok (.invokevirtual 129, 3) := by decide +kernel
theorem d_L_law_788 : decode c_L_law 788 = .ok (.lstore 6, 2) := by decide +kernel
theorem d_L_law_790 : decode c_L_law 790 = .ok (.aload_n 2, 1) := by decide +kernel
theorem d_L_law_791 : decode c_L_law 791 = .ok (.invokevirtual 75, 3) := by decide +kernel
theorem d_L_law_794 : decode c_L_law 794 = .ok (.iload 5, 2) := by decide +kernel
theorem d_L_law_796 : decode c_L_law 796 = .ok (.if_icmp .eq 5, 3) := by decide +kernel
theorem d_L_law_799 : decode c_L_law 799 = .ok (.iconst 0, 1) := by decide +kernel
theorem d_L_law_800 : decode c_L_law 800 = .ok (.ireturn, 1) := by decide +kernel
theorem d_L_law_801 : decode c_L_law 801 = .ok (.iload 5, 2) := by decide +kernel
theorem d_L_law_803 : decode c_L_law 803 = .ok (.ifCond .ne 14, 3) := by decide +kernel
theorem d_L_law_806 : decode c_L_law 806 = .ok (.aload_n 3, 1) := by decide +kernel
theorem d_L_law_807 : decode c_L_law 807 = .ok (.iconst 0, 1) := by decide +kernel
theorem d_L_law_808 : decode c_L_law 808 = .ok (.laload, 1) := by decide +kernel
theorem d_L_law_809 : decode c_L_law 809 = .ok (.lload 6, 2) := by decide +kernel
theorem d_L_law_811 : decode c_L_law 811 = .ok (.lcmp, 1) := by decide +kernel
theorem d_L_law_812 : decode c_L_law 812 = .ok (.ifCond .eq 5, 3) := by decide +kernel
theorem d_L_law_815 : decode c_L_law 815 = .ok (.iconst 0, 1) := by decide +kernel
theorem d_L_law_816 : decode c_L_law 816 = .ok (.ireturn, 1) := by decide +kernel
theorem d_L_law_817 : decode c_L_law 817 = .ok (.goto 127, 3) := by decide +kernel
theorem d_L_law_820 : decode c_L_law 820 = .ok (.aload_n 1, 1) := by decide +kernel
theorem d_L_law_821 : decode c_L_law 821 = .ok (.aload_n 0, 1) := by decide +kernel
theorem d_L_law_822 : decode c_L_law 822 = .ok (.iload 4, 2) := by decide +kernel
theorem d_L_law_824 : decode c_L_law 824 = .ok (.iconst 1, 1) := by decide +kernel
theorem d_L_law_825 : decode c_L_law 825 = .ok (.iadd, 1) := by decide +kernel
theorem d_L_law_826 : decode c_L_law 826 = .ok (.iaload, 1) := by decide +kernel
theorem d_L_law_827 : decode c_L_law 827 = .ok (.aload_n 0, 1) := by decide +kernel
theorem d_L_law_828 : decode c_L_law 828 = .ok (.iload 4, 2) := by decide +kernel
theorem d_L_law_830 : decode c_L_law 830 = .ok (.iconst 2, 1) := by decide +kernel
theorem d_L_law_831 : decode c_L_law 831 = .ok (.iadd, 1) := by decide +kernel
theorem d_L_law_832 : decode c_L_law 832 = .ok (.iaload, 1) := by decide +kernel
theorem d_L_law_833 : decode c_L_law 833 = .ok (.aload_n 3, 1) := by decide +kernel
theorem d_L_law_834 : decode c_L_law 834 = .ok (.invokestatic 130, 3) := by decide +kernel
theorem d_L_law_837 : decode c_L_law 837 = .ok (.istore 5, 2) := by decide +kernel
theorem d_L_law_839 : decode c_L_law 839 = .ok (.aload_n 2, 1) := by decide +kernel
theorem d_L_law_840 : decode c_L_law 840 = .ok (.aload_n 0, 1) := by decide +kernel
theorem d_L_law_841 : decode c_L_law 841 = .ok (.iload 4, 2) := by decide +kernel
theorem d_L_law_843 : decode c_L_law 843 = .ok (.iconst 1, 1) := by decide +kernel
theorem d_L_law_844 : decode c_L_law 844 = .ok (.iadd, 1) := by decide +kernel
theorem d_L_law_845 : decode c_L_law 845 = .ok (.iaload, 1) := by decide +kernel
theorem d_L_law_846 : decode c_L_law 846 = .ok (.aload_n 0, 1) := by decide +kernel
theorem d_L_law_847 : decode c_L_law 847 = .ok (.iload 4, 2) := by decide +kernel
theorem d_L_law_849 : decode c_L_law 849 = .ok (.iconst 2, 1) := by decide +kernel
theorem d_L_law_850 : decode c_L_law 850 = .ok (.iadd, 1) := by decide +kernel
theorem d_L_law_851 : decode c_L_law 851 = .ok (.iaload, 1) := by decide +kernel
theorem d_L_law_852 : decode c_L_law 852 = .ok (.invokevirtual 132, 3) := by decide +kernel
theorem d_L_law_855 : decode c_L_law 855 = .ok (.istore 6, 2) := by decide +kernel
theorem d_L_law_857 : decode c_L_law 857 = .ok (.aload_n 2, 1) := by decide +kernel
theorem d_L_law_858 : decode c_L_law 858 = .ok (.invokevirtual 75, 3) := by decide +kernel
theorem d_L_law_861 : decode c_L_law 861 = .ok (.iload 5, 2) := by decide +kernel
theorem d_L_law_863 : decode c_L_law 863 = .ok (.if_icmp .eq 5, 3) := by decide +kernel
theorem d_L_law_866 : decode c_L_law 866 = .ok (.iconst 0, 1) := by decide +kernel
theorem d_L_law_867 : decode c_L_law 867 = .ok (.ireturn, 1) := by decide +kernel
theorem d_L_law_868 : decode c_L_law 868 = .ok (.iload 5, 2) := by decide +kernel
theorem d_L_law_870 : decode c_L_law 870 = .ok (.ifCond .ne 15, 3) := by decide +kernel
theorem d_L_law_873 : decode c_L_law 873 = .ok (.aload_n 3, 1) := by decide +kernel
theorem d_L_law_874 : decode c_L_law 874 = .ok (.iconst 0, 1) := by decide +kernel
theorem d_L_law_875 : decode c_L_law 875 = .ok (.laload, 1) := by decide +kernel
theorem d_L_law_876 : decode c_L_law 876 = .ok (.iload 6, 2) := by decide +kernel
theorem d_L_law_878 : decode c_L_law 878 = .ok (.i2l, 1) := by decide +kernel
theorem d_L_law_879 : decode c_L_law 879 = .ok (.lcmp, 1) := by decide +kernel
theorem d_L_law_880 : decode c_L_law 880 = .ok (.ifCond .eq 5, 3) := by decide +kernel
theorem d_L_law_883 : decode c_L_law 883 = .ok (.iconst 0, 1) := by decide +kernel
theorem d_L_law_884 : decode c_L_law 884 = .ok (.ireturn, 1) := by decide +kernel
theorem d_L_law_885 : decode c_L_law 885 = .ok (.goto 59, 3) := by decide +kernel
theorem d_L_law_888 : decode c_L_law 888 = .ok (.aload_n 1, 1) := by decide +kernel
theorem d_L_law_889 : decode c_L_law 889 = .ok (.aload_n 0, 1) := by decide +kernel
theorem d_L_law_890 : decode c_L_law 890 = .ok (.iload 4, 2) := by decide +kernel
theorem d_L_law_892 : decode c_L_law 892 = .ok (.iconst 1, 1) := by decide +kernel
theorem d_L_law_893 : decode c_L_law 893 = .ok (.iadd, 1) := by decide +kernel
theorem d_L_law_894 : decode c_L_law 894 = .ok (.iaload, 1) := by decide +kernel
theorem d_L_law_895 : decode c_L_law 895 = .ok (.aload_n 3, 1) := by decide +kernel
theorem d_L_law_896 : decode c_L_law 896 = .ok (.invokestatic 133, 3) := by decide +kernel
theorem d_L_law_899 : decode c_L_law 899 = .ok (.istore 5, 2) := by decide +kernel
theorem d_L_law_901 : decode c_L_law 901 = .ok (.aload_n 2, 1) := by decide +kernel
theorem d_L_law_902 : decode c_L_law 902 = .ok (.aload_n 0, 1) := by decide +kernel
theorem d_L_law_903 : decode c_L_law 903 = .ok (.iload 4, 2) := by decide +kernel
theorem d_L_law_905 : decode c_L_law 905 = .ok (.iconst 1, 1) := by decide +kernel
theorem d_L_law_906 : decode c_L_law 906 = .ok (.iadd, 1) := by decide +kernel
theorem d_L_law_907 : decode c_L_law 907 = .ok (.iaload, 1) := by decide +kernel
theorem d_L_law_908 : decode c_L_law 908 = .ok (.invokevirtual 135, 3) := by decide +kernel
theorem d_L_law_911 : decode c_L_law 911 = .ok (.istore 6, 2) := by decide +kernel
theorem d_L_law_913 : decode c_L_law 913 = .ok (.aload_n 2, 1) := by decide +kernel
theorem d_L_law_914 : decode c_L_law 914 = .ok (.invokevirtual 75, 3) := by decide +kernel
theorem d_L_law_917 : decode c_L_law 917 = .ok (.iload 5, 2) := by decide +kernel
theorem d_L_law_919 : decode c_L_law 919 = .ok (.if_icmp .eq 5, 3) := by decide +kernel
theorem d_L_law_922 : decode c_L_law 922 = .ok (.iconst 0, 1) := by decide +kernel
theorem d_L_law_923 : decode c_L_law 923 = .ok (.ireturn, 1) := by decide +kernel
theorem d_L_law_924 : decode c_L_law 924 = .ok (.iload 5, 2) := by decide +kernel
theorem d_L_law_926 : decode c_L_law 926 = .ok (.ifCond .ne 15, 3) := by decide +kernel
theorem d_L_law_929 : decode c_L_law 929 = .ok (.aload_n 3, 1) := by decide +kernel
theorem d_L_law_930 : decode c_L_law 930 = .ok (.iconst 0, 1) := by decide +kernel
theorem d_L_law_931 : decode c_L_law 931 = .ok (.laload, 1) := by decide +kernel
theorem d_L_law_932 : decode c_L_law 932 = .ok (.iload 6, 2) := by decide +kernel
theorem d_L_law_934 : decode c_L_law 934 = .ok (.i2l, 1) := by decide +kernel
theorem d_L_law_935 : decode c_L_law 935 = .ok (.lcmp, 1) := by decide +kernel
theorem d_L_law_936 : decode c_L_law 936 = .ok (.ifCond .eq 5, 3) := by decide +kernel
theorem d_L_law_939 : decode c_L_law 939 = .ok (.iconst 0, 1) := by decide +kernel
theorem d_L_law_940 : decode c_L_law 940 = .ok (.ireturn, 1) := by decide +kernel
theorem d_L_law_941 : decode c_L_law 941 = .ok (.goto 3, 3) := by decide +kernel
theorem d_L_law_944 : decode c_L_law 944 = .ok (.iinc 4 3, 3) := by decide +kernel
theorem d_L_law_947 : decode c_L_law 947 = .ok (.goto (-924), 3) := by decide +kernel
theorem d_L_law_950 : decode c_L_law 950 = .ok (.iconst 1, 1) := by decide +kernel
theorem d_L_law_951 : decode c_L_law 951 = .ok (.ireturn, 1) := by decide +kernel
