/-! facts of callees and links of call sites, by program -/
set_option maxRecDepth 20000 in
theorem cf_F_init : CF y_F_init c_F_init 1 none 0 := ⟨ws_t 24 (by decide +kernel) (by decide +kernel), ws_t 1 (by decide +kernel) (by decide +kernel), ⟨by decide +kernel, by decide +kernel⟩, by decide +kernel⟩
set_option maxRecDepth 20000 in
theorem ci_F_init : Cond.instanceMethod y_F_init ∈ WS := ws_t 23 (by decide +kernel) (by decide +kernel)
set_option maxRecDepth 20000 in
theorem cf_F_rule : CF y_F_rule c_F_rule 1 (some .int) 0 := ⟨ws_t 375 (by decide +kernel) (by decide +kernel), ws_t 1 (by decide +kernel) (by decide +kernel), ⟨by decide +kernel, by decide +kernel⟩, by decide +kernel⟩
set_option maxRecDepth 20000 in
theorem ci_F_rule : Cond.instanceMethod y_F_rule ∈ WS ∧ Cond.selects y_F_rule.cls y_F_rule y_F_rule ∈ WS := ⟨ws_t 373 (by decide +kernel) (by decide +kernel), ws_t 374 (by decide +kernel) (by decide +kernel)⟩
set_option maxRecDepth 20000 in
theorem cf_F_alternative : CF y_F_alternative c_F_alternative 2 (some .int) 1 := ⟨ws_t 457 (by decide +kernel) (by decide +kernel), ws_t 1 (by decide +kernel) (by decide +kernel), ⟨by decide +kernel, by decide +kernel⟩, by decide +kernel⟩
set_option maxRecDepth 20000 in
theorem ci_F_alternative : Cond.instanceMethod y_F_alternative ∈ WS ∧ Cond.selects y_F_alternative.cls y_F_alternative y_F_alternative ∈ WS := ⟨ws_t 455 (by decide +kernel) (by decide +kernel), ws_t 456 (by decide +kernel) (by decide +kernel)⟩
set_option maxRecDepth 20000 in
theorem cf_F_symbol : CF y_F_symbol c_F_symbol 3 (some .int) 2 := ⟨ws_t 497 (by decide +kernel) (by decide +kernel), ws_t 1 (by decide +kernel) (by decide +kernel), ⟨by decide +kernel, by decide +kernel⟩, by decide +kernel⟩
set_option maxRecDepth 20000 in
theorem ci_F_symbol : Cond.instanceMethod y_F_symbol ∈ WS ∧ Cond.selects y_F_symbol.cls y_F_symbol y_F_symbol ∈ WS := ⟨ws_t 495 (by decide +kernel) (by decide +kernel), ws_t 496 (by decide +kernel) (by decide +kernel)⟩
set_option maxRecDepth 20000 in
theorem cf_F_clear : CF y_F_clear c_F_clear 1 (some .int) 0 := ⟨ws_t 239 (by decide +kernel) (by decide +kernel), ws_t 1 (by decide +kernel) (by decide +kernel), ⟨by decide +kernel, by decide +kernel⟩, by decide +kernel⟩
set_option maxRecDepth 20000 in
theorem ci_F_clear : Cond.instanceMethod y_F_clear ∈ WS ∧ Cond.selects y_F_clear.cls y_F_clear y_F_clear ∈ WS := ⟨ws_t 237 (by decide +kernel) (by decide +kernel), ws_t 238 (by decide +kernel) (by decide +kernel)⟩
set_option maxRecDepth 20000 in
theorem cf_F_fault : CF y_F_fault c_F_fault 1 (some .int) 0 := ⟨ws_t 251 (by decide +kernel) (by decide +kernel), ws_t 1 (by decide +kernel) (by decide +kernel), ⟨by decide +kernel, by decide +kernel⟩, by decide +kernel⟩
set_option maxRecDepth 20000 in
theorem ci_F_fault : Cond.instanceMethod y_F_fault ∈ WS ∧ Cond.selects y_F_fault.cls y_F_fault y_F_fault ∈ WS := ⟨ws_t 249 (by decide +kernel) (by decide +kernel), ws_t 250 (by decide +kernel) (by decide +kernel)⟩
set_option maxRecDepth 20000 in
theorem cf_F_faulty : CF y_F_faulty c_F_faulty 1 (some .int) 0 := ⟨ws_t 355 (by decide +kernel) (by decide +kernel), ws_t 1 (by decide +kernel) (by decide +kernel), ⟨by decide +kernel, by decide +kernel⟩, by decide +kernel⟩
set_option maxRecDepth 20000 in
theorem ci_F_faulty : Cond.instanceMethod y_F_faulty ∈ WS ∧ Cond.selects y_F_faulty.cls y_F_faulty y_F_faulty ∈ WS := ⟨ws_t 353 (by decide +kernel) (by decide +kernel), ws_t 354 (by decide +kernel) (by decide +kernel)⟩
set_option maxRecDepth 20000 in
theorem cf_F_token : CF y_F_token c_F_token 2 (some .int) 1 := ⟨ws_t 543 (by decide +kernel) (by decide +kernel), ws_t 1 (by decide +kernel) (by decide +kernel), ⟨by decide +kernel, by decide +kernel⟩, by decide +kernel⟩
set_option maxRecDepth 20000 in
theorem ci_F_token : Cond.instanceMethod y_F_token ∈ WS ∧ Cond.selects y_F_token.cls y_F_token y_F_token ∈ WS := ⟨ws_t 541 (by decide +kernel) (by decide +kernel), ws_t 542 (by decide +kernel) (by decide +kernel)⟩
set_option maxRecDepth 20000 in
theorem cf_F_keep : CF y_F_keep c_F_keep 2 none 1 := ⟨ws_t 560 (by decide +kernel) (by decide +kernel), ws_t 1 (by decide +kernel) (by decide +kernel), ⟨by decide +kernel, by decide +kernel⟩, by decide +kernel⟩
set_option maxRecDepth 20000 in
theorem ci_F_keep : Cond.instanceMethod y_F_keep ∈ WS ∧ Cond.selects y_F_keep.cls y_F_keep y_F_keep ∈ WS := ⟨ws_t 558 (by decide +kernel) (by decide +kernel), ws_t 559 (by decide +kernel) (by decide +kernel)⟩
set_option maxRecDepth 20000 in
theorem cf_F_parse : CF y_F_parse c_F_parse 2 (some .int) 0 := ⟨ws_t 572 (by decide +kernel) (by decide +kernel), ws_t 1 (by decide +kernel) (by decide +kernel), ⟨by decide +kernel, by decide +kernel⟩, by decide +kernel⟩
set_option maxRecDepth 20000 in
theorem ci_F_parse : Cond.instanceMethod y_F_parse ∈ WS ∧ Cond.selects y_F_parse.cls y_F_parse y_F_parse ∈ WS := ⟨ws_t 570 (by decide +kernel) (by decide +kernel), ws_t 571 (by decide +kernel) (by decide +kernel)⟩
set_option maxRecDepth 20000 in
theorem cf_F_nodes : CF y_F_nodes c_F_nodes 1 (some .int) 0 := ⟨ws_t 363 (by decide +kernel) (by decide +kernel), ws_t 1 (by decide +kernel) (by decide +kernel), ⟨by decide +kernel, by decide +kernel⟩, by decide +kernel⟩
set_option maxRecDepth 20000 in
theorem ci_F_nodes : Cond.instanceMethod y_F_nodes ∈ WS ∧ Cond.selects y_F_nodes.cls y_F_nodes y_F_nodes ∈ WS := ⟨ws_t 361 (by decide +kernel) (by decide +kernel), ws_t 362 (by decide +kernel) (by decide +kernel)⟩
set_option maxRecDepth 20000 in
theorem cf_F_node : CF y_F_node c_F_node 3 (some .int) 2 := ⟨ws_t 802 (by decide +kernel) (by decide +kernel), ws_t 1 (by decide +kernel) (by decide +kernel), ⟨by decide +kernel, by decide +kernel⟩, by decide +kernel⟩
set_option maxRecDepth 20000 in
theorem ci_F_node : Cond.instanceMethod y_F_node ∈ WS ∧ Cond.selects y_F_node.cls y_F_node y_F_node ∈ WS := ⟨ws_t 800 (by decide +kernel) (by decide +kernel), ws_t 801 (by decide +kernel) (by decide +kernel)⟩
set_option maxRecDepth 20000 in
theorem cf_F_reach : CF y_F_reach c_F_reach 1 (some .int) 0 := ⟨ws_t 815 (by decide +kernel) (by decide +kernel), ws_t 1 (by decide +kernel) (by decide +kernel), ⟨by decide +kernel, by decide +kernel⟩, by decide +kernel⟩
set_option maxRecDepth 20000 in
theorem ci_F_reach : Cond.instanceMethod y_F_reach ∈ WS ∧ Cond.selects y_F_reach.cls y_F_reach y_F_reach ∈ WS := ⟨ws_t 813 (by decide +kernel) (by decide +kernel), ws_t 814 (by decide +kernel) (by decide +kernel)⟩
set_option maxRecDepth 20000 in
theorem cf_F_expected : CF y_F_expected c_F_expected 2 (some .long) 1 := ⟨ws_t 826 (by decide +kernel) (by decide +kernel), ws_t 1 (by decide +kernel) (by decide +kernel), ⟨by decide +kernel, by decide +kernel⟩, by decide +kernel⟩
set_option maxRecDepth 20000 in
theorem ci_F_expected : Cond.instanceMethod y_F_expected ∈ WS ∧ Cond.selects y_F_expected.cls y_F_expected y_F_expected ∈ WS := ⟨ws_t 824 (by decide +kernel) (by decide +kernel), ws_t 825 (by decide +kernel) (by decide +kernel)⟩
set_option maxRecDepth 20000 in
theorem cf_F_isNothing : CF y_F_isNothing c_F_isNothing 2 (some .boolean) 1 := ⟨ws_t 839 (by decide +kernel) (by decide +kernel), ws_t 1 (by decide +kernel) (by decide +kernel), ⟨by decide +kernel, by decide +kernel⟩, by decide +kernel⟩
set_option maxRecDepth 20000 in
theorem ci_F_isNothing : Cond.instanceMethod y_F_isNothing ∈ WS ∧ Cond.selects y_F_isNothing.cls y_F_isNothing y_F_isNothing ∈ WS := ⟨ws_t 837 (by decide +kernel) (by decide +kernel), ws_t 838 (by decide +kernel) (by decide +kernel)⟩
set_option maxRecDepth 20000 in
theorem cf_F_first : CF y_F_first c_F_first 2 (some .long) 1 := ⟨ws_t 850 (by decide +kernel) (by decide +kernel), ws_t 1 (by decide +kernel) (by decide +kernel), ⟨by decide +kernel, by decide +kernel⟩, by decide +kernel⟩
set_option maxRecDepth 20000 in
theorem ci_F_first : Cond.instanceMethod y_F_first ∈ WS ∧ Cond.selects y_F_first.cls y_F_first y_F_first ∈ WS := ⟨ws_t 848 (by decide +kernel) (by decide +kernel), ws_t 849 (by decide +kernel) (by decide +kernel)⟩
set_option maxRecDepth 20000 in
theorem cf_F_following : CF y_F_following c_F_following 2 (some .long) 1 := ⟨ws_t 861 (by decide +kernel) (by decide +kernel), ws_t 1 (by decide +kernel) (by decide +kernel), ⟨by decide +kernel, by decide +kernel⟩, by decide +kernel⟩
set_option maxRecDepth 20000 in
theorem ci_F_following : Cond.instanceMethod y_F_following ∈ WS ∧ Cond.selects y_F_following.cls y_F_following y_F_following ∈ WS := ⟨ws_t 859 (by decide +kernel) (by decide +kernel), ws_t 860 (by decide +kernel) (by decide +kernel)⟩
set_option maxRecDepth 20000 in
theorem cf_F_lets : CF y_F_lets c_F_lets 3 (some .int) 2 := ⟨ws_t 872 (by decide +kernel) (by decide +kernel), ws_t 1 (by decide +kernel) (by decide +kernel), ⟨by decide +kernel, by decide +kernel⟩, by decide +kernel⟩
set_option maxRecDepth 20000 in
theorem ci_F_lets : Cond.instanceMethod y_F_lets ∈ WS ∧ Cond.selects y_F_lets.cls y_F_lets y_F_lets ∈ WS := ⟨ws_t 870 (by decide +kernel) (by decide +kernel), ws_t 871 (by decide +kernel) (by decide +kernel)⟩
set_option maxRecDepth 20000 in
theorem cf_F_count : CF y_F_count c_F_count 2 (some .int) 1 := ⟨ws_t 883 (by decide +kernel) (by decide +kernel), ws_t 1 (by decide +kernel) (by decide +kernel), ⟨by decide +kernel, by decide +kernel⟩, by decide +kernel⟩
set_option maxRecDepth 20000 in
theorem ci_F_count : Cond.instanceMethod y_F_count ∈ WS ∧ Cond.selects y_F_count.cls y_F_count y_F_count ∈ WS := ⟨ws_t 881 (by decide +kernel) (by decide +kernel), ws_t 882 (by decide +kernel) (by decide +kernel)⟩
set_option maxRecDepth 20000 in
theorem cf_F_mustBeRule : CF y_F_mustBeRule c_F_mustBeRule 2 none 1 := ⟨ws_t 461 (by decide +kernel) (by decide +kernel), ws_t 1 (by decide +kernel) (by decide +kernel), ⟨by decide +kernel, by decide +kernel⟩, by decide +kernel⟩
set_option maxRecDepth 20000 in
theorem ci_F_mustBeRule : Cond.instanceMethod y_F_mustBeRule ∈ WS ∧ Cond.selects y_F_mustBeRule.cls y_F_mustBeRule y_F_mustBeRule ∈ WS := ⟨ws_t 460 (by decide +kernel) (by decide +kernel), ws_p 15 rfl⟩
set_option maxRecDepth 20000 in
theorem cf_F_mustBeRight : CF y_F_mustBeRight c_F_mustBeRight 1 none 0 := ⟨ws_t 576 (by decide +kernel) (by decide +kernel), ws_t 1 (by decide +kernel) (by decide +kernel), ⟨by decide +kernel, by decide +kernel⟩, by decide +kernel⟩
set_option maxRecDepth 20000 in
theorem ci_F_mustBeRight : Cond.instanceMethod y_F_mustBeRight ∈ WS ∧ Cond.selects y_F_mustBeRight.cls y_F_mustBeRight y_F_mustBeRight ∈ WS := ⟨ws_t 575 (by decide +kernel) (by decide +kernel), ws_p 16 rfl⟩
set_option maxRecDepth 20000 in
theorem cf_F_has : CF y_F_has c_F_has 3 (some .boolean) 2 := ⟨ws_t 295 (by decide +kernel) (by decide +kernel), ws_t 1 (by decide +kernel) (by decide +kernel), ⟨by decide +kernel, by decide +kernel⟩, by decide +kernel⟩
set_option maxRecDepth 20000 in
theorem ci_F_has : Cond.static y_F_has ∈ WS := ws_t 294 (by decide +kernel) (by decide +kernel)
set_option maxRecDepth 20000 in
theorem cf_M_init : CF y_M_init c_M_init 1 none 0 := ⟨ws_t 889 (by decide +kernel) (by decide +kernel), ws_t 9 (by decide +kernel) (by decide +kernel), ⟨by decide +kernel, by decide +kernel⟩, by decide +kernel⟩
set_option maxRecDepth 20000 in
theorem ci_M_init : Cond.instanceMethod y_M_init ∈ WS := ws_t 888 (by decide +kernel) (by decide +kernel)
set_option maxRecDepth 20000 in
theorem cf_M_thrown : CF y_M_thrown c_M_thrown 1 (some .int) 0 := ⟨ws_t 981 (by decide +kernel) (by decide +kernel), ws_t 9 (by decide +kernel) (by decide +kernel), ⟨by decide +kernel, by decide +kernel⟩, by decide +kernel⟩
set_option maxRecDepth 20000 in
theorem ci_M_thrown : Cond.instanceMethod y_M_thrown ∈ WS ∧ Cond.selects y_M_thrown.cls y_M_thrown y_M_thrown ∈ WS := ⟨ws_t 979 (by decide +kernel) (by decide +kernel), ws_t 980 (by decide +kernel) (by decide +kernel)⟩
set_option maxRecDepth 20000 in
theorem cf_M_symbolAt : CF y_M_symbolAt c_M_symbolAt 4 (some .int) 3 := ⟨ws_t 997 (by decide +kernel) (by decide +kernel), ws_t 9 (by decide +kernel) (by decide +kernel), ⟨by decide +kernel, by decide +kernel⟩, by decide +kernel⟩
set_option maxRecDepth 20000 in
theorem ci_M_symbolAt : Cond.instanceMethod y_M_symbolAt ∈ WS ∧ Cond.selects y_M_symbolAt.cls y_M_symbolAt y_M_symbolAt ∈ WS := ⟨ws_t 996 (by decide +kernel) (by decide +kernel), ws_p 41 rfl⟩
set_option maxRecDepth 20000 in
theorem cf_M_sizeOf : CF y_M_sizeOf c_M_sizeOf 3 (some .int) 2 := ⟨ws_t 993 (by decide +kernel) (by decide +kernel), ws_t 9 (by decide +kernel) (by decide +kernel), ⟨by decide +kernel, by decide +kernel⟩, by decide +kernel⟩
set_option maxRecDepth 20000 in
theorem ci_M_sizeOf : Cond.instanceMethod y_M_sizeOf ∈ WS ∧ Cond.selects y_M_sizeOf.cls y_M_sizeOf y_M_sizeOf ∈ WS := ⟨ws_t 992 (by decide +kernel) (by decide +kernel), ws_p 40 rfl⟩
set_option maxRecDepth 20000 in
theorem cf_M_isRule : CF y_M_isRule c_M_isRule 1 (some .boolean) 1 := ⟨ws_t 1008 (by decide +kernel) (by decide +kernel), ws_t 9 (by decide +kernel) (by decide +kernel), ⟨by decide +kernel, by decide +kernel⟩, by decide +kernel⟩
set_option maxRecDepth 20000 in
theorem ci_M_isRule : Cond.static y_M_isRule ∈ WS := ws_t 1007 (by decide +kernel) (by decide +kernel)
set_option maxRecDepth 20000 in
theorem cf_M_rowIsNothing : CF y_M_rowIsNothing c_M_rowIsNothing 7 (some .boolean) 3 := ⟨ws_t 1005 (by decide +kernel) (by decide +kernel), ws_t 9 (by decide +kernel) (by decide +kernel), ⟨by decide +kernel, by decide +kernel⟩, by decide +kernel⟩
set_option maxRecDepth 20000 in
theorem ci_M_rowIsNothing : Cond.instanceMethod y_M_rowIsNothing ∈ WS ∧ Cond.selects y_M_rowIsNothing.cls y_M_rowIsNothing y_M_rowIsNothing ∈ WS := ⟨ws_t 1004 (by decide +kernel) (by decide +kernel), ws_p 43 rfl⟩
set_option maxRecDepth 20000 in
theorem cf_M_findNothing : CF y_M_findNothing c_M_findNothing 4 none 0 := ⟨ws_t 1001 (by decide +kernel) (by decide +kernel), ws_t 9 (by decide +kernel) (by decide +kernel), ⟨by decide +kernel, by decide +kernel⟩, by decide +kernel⟩
set_option maxRecDepth 20000 in
theorem ci_M_findNothing : Cond.instanceMethod y_M_findNothing ∈ WS ∧ Cond.selects y_M_findNothing.cls y_M_findNothing y_M_findNothing ∈ WS := ⟨ws_t 1000 (by decide +kernel) (by decide +kernel), ws_p 42 rfl⟩
set_option maxRecDepth 20000 in
theorem cf_M_findLeft : CF y_M_findLeft c_M_findLeft 6 none 0 := ⟨ws_t 1012 (by decide +kernel) (by decide +kernel), ws_t 9 (by decide +kernel) (by decide +kernel), ⟨by decide +kernel, by decide +kernel⟩, by decide +kernel⟩
set_option maxRecDepth 20000 in
theorem ci_M_findLeft : Cond.instanceMethod y_M_findLeft ∈ WS ∧ Cond.selects y_M_findLeft.cls y_M_findLeft y_M_findLeft ∈ WS := ⟨ws_t 1011 (by decide +kernel) (by decide +kernel), ws_p 44 rfl⟩
set_option maxRecDepth 20000 in
theorem cf_M_faultOf : CF y_M_faultOf c_M_faultOf 4 (some .int) 0 := ⟨ws_t 989 (by decide +kernel) (by decide +kernel), ws_t 9 (by decide +kernel) (by decide +kernel), ⟨by decide +kernel, by decide +kernel⟩, by decide +kernel⟩
set_option maxRecDepth 20000 in
theorem ci_M_faultOf : Cond.instanceMethod y_M_faultOf ∈ WS ∧ Cond.selects y_M_faultOf.cls y_M_faultOf y_M_faultOf ∈ WS := ⟨ws_t 988 (by decide +kernel) (by decide +kernel), ws_p 39 rfl⟩
set_option maxRecDepth 20000 in
theorem cf_M_makeOrder : CF y_M_makeOrder c_M_makeOrder 7 none 0 := ⟨ws_t 1020 (by decide +kernel) (by decide +kernel), ws_t 9 (by decide +kernel) (by decide +kernel), ⟨by decide +kernel, by decide +kernel⟩, by decide +kernel⟩
set_option maxRecDepth 20000 in
theorem ci_M_makeOrder : Cond.instanceMethod y_M_makeOrder ∈ WS ∧ Cond.selects y_M_makeOrder.cls y_M_makeOrder y_M_makeOrder ∈ WS := ⟨ws_t 1019 (by decide +kernel) (by decide +kernel), ws_p 46 rfl⟩
set_option maxRecDepth 20000 in
theorem cf_M_step : CF y_M_step c_M_step 8 (some .long) 2 := ⟨ws_t 1028 (by decide +kernel) (by decide +kernel), ws_t 9 (by decide +kernel) (by decide +kernel), ⟨by decide +kernel, by decide +kernel⟩, by decide +kernel⟩
set_option maxRecDepth 20000 in
theorem ci_M_step : Cond.instanceMethod y_M_step ∈ WS ∧ Cond.selects y_M_step.cls y_M_step y_M_step ∈ WS := ⟨ws_t 1027 (by decide +kernel) (by decide +kernel), ws_p 48 rfl⟩
set_option maxRecDepth 20000 in
theorem cf_M_alongAlternative : CF y_M_alongAlternative c_M_alongAlternative 8 (some .long) 3 := ⟨ws_t 1024 (by decide +kernel) (by decide +kernel), ws_t 9 (by decide +kernel) (by decide +kernel), ⟨by decide +kernel, by decide +kernel⟩, by decide +kernel⟩
set_option maxRecDepth 20000 in
theorem ci_M_alongAlternative : Cond.instanceMethod y_M_alongAlternative ∈ WS ∧ Cond.selects y_M_alongAlternative.cls y_M_alongAlternative y_M_alongAlternative ∈ WS := ⟨ws_t 1023 (by decide +kernel) (by decide +kernel), ws_p 47 rfl⟩
set_option maxRecDepth 20000 in
theorem cf_M_findPlaces : CF y_M_findPlaces c_M_findPlaces 8 none 0 := ⟨ws_t 1016 (by decide +kernel) (by decide +kernel), ws_t 9 (by decide +kernel) (by decide +kernel), ⟨by decide +kernel, by decide +kernel⟩, by decide +kernel⟩
set_option maxRecDepth 20000 in
theorem ci_M_findPlaces : Cond.instanceMethod y_M_findPlaces ∈ WS ∧ Cond.selects y_M_findPlaces.cls y_M_findPlaces y_M_findPlaces ∈ WS := ⟨ws_t 1015 (by decide +kernel) (by decide +kernel), ws_p 45 rfl⟩
set_option maxRecDepth 20000 in
theorem cf_M_capped : CF y_M_capped c_M_capped 2 (some .long) 1 := ⟨ws_t 1039 (by decide +kernel) (by decide +kernel), ws_t 9 (by decide +kernel) (by decide +kernel), ⟨by decide +kernel, by decide +kernel⟩, by decide +kernel⟩
set_option maxRecDepth 20000 in
theorem ci_M_capped : Cond.static y_M_capped ∈ WS := ws_t 1038 (by decide +kernel) (by decide +kernel)
set_option maxRecDepth 20000 in
theorem cf_M_findWays : CF y_M_findWays c_M_findWays 7 none 0 := ⟨ws_t 1032 (by decide +kernel) (by decide +kernel), ws_t 9 (by decide +kernel) (by decide +kernel), ⟨by decide +kernel, by decide +kernel⟩, by decide +kernel⟩
set_option maxRecDepth 20000 in
theorem ci_M_findWays : Cond.instanceMethod y_M_findWays ∈ WS ∧ Cond.selects y_M_findWays.cls y_M_findWays y_M_findWays ∈ WS := ⟨ws_t 1031 (by decide +kernel) (by decide +kernel), ws_p 49 rfl⟩
set_option maxRecDepth 20000 in
theorem cf_M_waysAlong : CF y_M_waysAlong c_M_waysAlong 11 none 3 := ⟨ws_t 1036 (by decide +kernel) (by decide +kernel), ws_t 9 (by decide +kernel) (by decide +kernel), ⟨by decide +kernel, by decide +kernel⟩, by decide +kernel⟩
set_option maxRecDepth 20000 in
theorem ci_M_waysAlong : Cond.instanceMethod y_M_waysAlong ∈ WS ∧ Cond.selects y_M_waysAlong.cls y_M_waysAlong y_M_waysAlong ∈ WS := ⟨ws_t 1035 (by decide +kernel) (by decide +kernel), ws_p 50 rfl⟩
set_option maxRecDepth 20000 in
theorem cf_M_before : CF y_M_before c_M_before 8 (some .long) 2 := ⟨ws_t 1060 (by decide +kernel) (by decide +kernel), ws_t 9 (by decide +kernel) (by decide +kernel), ⟨by decide +kernel, by decide +kernel⟩, by decide +kernel⟩
set_option maxRecDepth 20000 in
theorem ci_M_before : Cond.instanceMethod y_M_before ∈ WS ∧ Cond.selects y_M_before.cls y_M_before y_M_before ∈ WS := ⟨ws_t 1059 (by decide +kernel) (by decide +kernel), ws_p 55 rfl⟩
set_option maxRecDepth 20000 in
theorem cf_M_reachOf : CF y_M_reachOf c_M_reachOf 7 (some .int) 3 := ⟨ws_t 1052 (by decide +kernel) (by decide +kernel), ws_t 9 (by decide +kernel) (by decide +kernel), ⟨by decide +kernel, by decide +kernel⟩, by decide +kernel⟩
set_option maxRecDepth 20000 in
theorem ci_M_reachOf : Cond.instanceMethod y_M_reachOf ∈ WS ∧ Cond.selects y_M_reachOf.cls y_M_reachOf y_M_reachOf ∈ WS := ⟨ws_t 1051 (by decide +kernel) (by decide +kernel), ws_p 53 rfl⟩
set_option maxRecDepth 20000 in
theorem cf_M_push : CF y_M_push c_M_push 5 none 3 := ⟨ws_t 1056 (by decide +kernel) (by decide +kernel), ws_t 9 (by decide +kernel) (by decide +kernel), ⟨by decide +kernel, by decide +kernel⟩, by decide +kernel⟩
set_option maxRecDepth 20000 in
theorem ci_M_push : Cond.instanceMethod y_M_push ∈ WS ∧ Cond.selects y_M_push.cls y_M_push y_M_push ∈ WS := ⟨ws_t 1055 (by decide +kernel) (by decide +kernel), ws_p 54 rfl⟩
set_option maxRecDepth 20000 in
theorem cf_M_makeNode : CF y_M_makeNode c_M_makeNode 13 none 3 := ⟨ws_t 1048 (by decide +kernel) (by decide +kernel), ws_t 9 (by decide +kernel) (by decide +kernel), ⟨by decide +kernel, by decide +kernel⟩, by decide +kernel⟩
set_option maxRecDepth 20000 in
theorem ci_M_makeNode : Cond.instanceMethod y_M_makeNode ∈ WS ∧ Cond.selects y_M_makeNode.cls y_M_makeNode y_M_makeNode ∈ WS := ⟨ws_t 1047 (by decide +kernel) (by decide +kernel), ws_p 52 rfl⟩
set_option maxRecDepth 20000 in
theorem cf_M_makeTree : CF y_M_makeTree c_M_makeTree 3 (some .boolean) 0 := ⟨ws_t 1044 (by decide +kernel) (by decide +kernel), ws_t 9 (by decide +kernel) (by decide +kernel), ⟨by decide +kernel, by decide +kernel⟩, by decide +kernel⟩
set_option maxRecDepth 20000 in
theorem ci_M_makeTree : Cond.instanceMethod y_M_makeTree ∈ WS ∧ Cond.selects y_M_makeTree.cls y_M_makeTree y_M_makeTree ∈ WS := ⟨ws_t 1043 (by decide +kernel) (by decide +kernel), ws_p 51 rfl⟩
set_option maxRecDepth 20000 in
theorem cf_M_parse : CF y_M_parse c_M_parse 3 (some .int) 0 := ⟨ws_t 985 (by decide +kernel) (by decide +kernel), ws_t 9 (by decide +kernel) (by decide +kernel), ⟨by decide +kernel, by decide +kernel⟩, by decide +kernel⟩
set_option maxRecDepth 20000 in
theorem ci_M_parse : Cond.instanceMethod y_M_parse ∈ WS ∧ Cond.selects y_M_parse.cls y_M_parse y_M_parse ∈ WS := ⟨ws_t 983 (by decide +kernel) (by decide +kernel), ws_t 984 (by decide +kernel) (by decide +kernel)⟩
set_option maxRecDepth 20000 in
theorem cf_M_rule : CF y_M_rule c_M_rule 1 (some .int) 0 := ⟨ws_t 1064 (by decide +kernel) (by decide +kernel), ws_t 9 (by decide +kernel) (by decide +kernel), ⟨by decide +kernel, by decide +kernel⟩, by decide +kernel⟩
set_option maxRecDepth 20000 in
theorem ci_M_rule : Cond.instanceMethod y_M_rule ∈ WS ∧ Cond.selects y_M_rule.cls y_M_rule y_M_rule ∈ WS := ⟨ws_t 1062 (by decide +kernel) (by decide +kernel), ws_t 1063 (by decide +kernel) (by decide +kernel)⟩
set_option maxRecDepth 20000 in
theorem cf_M_isThere : CF y_M_isThere c_M_isThere 2 (some .boolean) 1 := ⟨ws_t 1072 (by decide +kernel) (by decide +kernel), ws_t 9 (by decide +kernel) (by decide +kernel), ⟨by decide +kernel, by decide +kernel⟩, by decide +kernel⟩
set_option maxRecDepth 20000 in
theorem ci_M_isThere : Cond.instanceMethod y_M_isThere ∈ WS ∧ Cond.selects y_M_isThere.cls y_M_isThere y_M_isThere ∈ WS := ⟨ws_t 1071 (by decide +kernel) (by decide +kernel), ws_p 56 rfl⟩
set_option maxRecDepth 20000 in
theorem cf_M_alternative : CF y_M_alternative c_M_alternative 3 (some .int) 1 := ⟨ws_t 1068 (by decide +kernel) (by decide +kernel), ws_t 9 (by decide +kernel) (by decide +kernel), ⟨by decide +kernel, by decide +kernel⟩, by decide +kernel⟩
set_option maxRecDepth 20000 in
theorem ci_M_alternative : Cond.instanceMethod y_M_alternative ∈ WS ∧ Cond.selects y_M_alternative.cls y_M_alternative y_M_alternative ∈ WS := ⟨ws_t 1066 (by decide +kernel) (by decide +kernel), ws_t 1067 (by decide +kernel) (by decide +kernel)⟩
set_option maxRecDepth 20000 in
theorem cf_M_symbol : CF y_M_symbol c_M_symbol 4 (some .int) 2 := ⟨ws_t 1076 (by decide +kernel) (by decide +kernel), ws_t 9 (by decide +kernel) (by decide +kernel), ⟨by decide +kernel, by decide +kernel⟩, by decide +kernel⟩
set_option maxRecDepth 20000 in
theorem ci_M_symbol : Cond.instanceMethod y_M_symbol ∈ WS ∧ Cond.selects y_M_symbol.cls y_M_symbol y_M_symbol ∈ WS := ⟨ws_t 1074 (by decide +kernel) (by decide +kernel), ws_t 1075 (by decide +kernel) (by decide +kernel)⟩
set_option maxRecDepth 20000 in
theorem cf_M_clear : CF y_M_clear c_M_clear 2 (some .int) 0 := ⟨ws_t 1080 (by decide +kernel) (by decide +kernel), ws_t 9 (by decide +kernel) (by decide +kernel), ⟨by decide +kernel, by decide +kernel⟩, by decide +kernel⟩
set_option maxRecDepth 20000 in
theorem ci_M_clear : Cond.instanceMethod y_M_clear ∈ WS ∧ Cond.selects y_M_clear.cls y_M_clear y_M_clear ∈ WS := ⟨ws_t 1078 (by decide +kernel) (by decide +kernel), ws_t 1079 (by decide +kernel) (by decide +kernel)⟩
set_option maxRecDepth 20000 in
theorem cf_M_fault : CF y_M_fault c_M_fault 1 (some .int) 0 := ⟨ws_t 1084 (by decide +kernel) (by decide +kernel), ws_t 9 (by decide +kernel) (by decide +kernel), ⟨by decide +kernel, by decide +kernel⟩, by decide +kernel⟩
set_option maxRecDepth 20000 in
theorem ci_M_fault : Cond.instanceMethod y_M_fault ∈ WS ∧ Cond.selects y_M_fault.cls y_M_fault y_M_fault ∈ WS := ⟨ws_t 1082 (by decide +kernel) (by decide +kernel), ws_t 1083 (by decide +kernel) (by decide +kernel)⟩
set_option maxRecDepth 20000 in
theorem cf_M_faulty : CF y_M_faulty c_M_faulty 1 (some .int) 0 := ⟨ws_t 1088 (by decide +kernel) (by decide +kernel), ws_t 9 (by decide +kernel) (by decide +kernel), ⟨by decide +kernel, by decide +kernel⟩, by decide +kernel⟩
set_option maxRecDepth 20000 in
theorem ci_M_faulty : Cond.instanceMethod y_M_faulty ∈ WS ∧ Cond.selects y_M_faulty.cls y_M_faulty y_M_faulty ∈ WS := ⟨ws_t 1086 (by decide +kernel) (by decide +kernel), ws_t 1087 (by decide +kernel) (by decide +kernel)⟩
set_option maxRecDepth 20000 in
theorem cf_M_token : CF y_M_token c_M_token 2 (some .int) 1 := ⟨ws_t 1092 (by decide +kernel) (by decide +kernel), ws_t 9 (by decide +kernel) (by decide +kernel), ⟨by decide +kernel, by decide +kernel⟩, by decide +kernel⟩
set_option maxRecDepth 20000 in
theorem ci_M_token : Cond.instanceMethod y_M_token ∈ WS ∧ Cond.selects y_M_token.cls y_M_token y_M_token ∈ WS := ⟨ws_t 1090 (by decide +kernel) (by decide +kernel), ws_t 1091 (by decide +kernel) (by decide +kernel)⟩
set_option maxRecDepth 20000 in
theorem cf_M_keep : CF y_M_keep c_M_keep 2 none 1 := ⟨ws_t 1096 (by decide +kernel) (by decide +kernel), ws_t 9 (by decide +kernel) (by decide +kernel), ⟨by decide +kernel, by decide +kernel⟩, by decide +kernel⟩
set_option maxRecDepth 20000 in
theorem ci_M_keep : Cond.instanceMethod y_M_keep ∈ WS ∧ Cond.selects y_M_keep.cls y_M_keep y_M_keep ∈ WS := ⟨ws_t 1094 (by decide +kernel) (by decide +kernel), ws_t 1095 (by decide +kernel) (by decide +kernel)⟩
set_option maxRecDepth 20000 in
theorem cf_M_nodes : CF y_M_nodes c_M_nodes 1 (some .int) 0 := ⟨ws_t 1100 (by decide +kernel) (by decide +kernel), ws_t 9 (by decide +kernel) (by decide +kernel), ⟨by decide +kernel, by decide +kernel⟩, by decide +kernel⟩
set_option maxRecDepth 20000 in
theorem ci_M_nodes : Cond.instanceMethod y_M_nodes ∈ WS ∧ Cond.selects y_M_nodes.cls y_M_nodes y_M_nodes ∈ WS := ⟨ws_t 1098 (by decide +kernel) (by decide +kernel), ws_t 1099 (by decide +kernel) (by decide +kernel)⟩
set_option maxRecDepth 20000 in
theorem cf_M_node : CF y_M_node c_M_node 3 (some .int) 2 := ⟨ws_t 1104 (by decide +kernel) (by decide +kernel), ws_t 9 (by decide +kernel) (by decide +kernel), ⟨by decide +kernel, by decide +kernel⟩, by decide +kernel⟩
set_option maxRecDepth 20000 in
theorem ci_M_node : Cond.instanceMethod y_M_node ∈ WS ∧ Cond.selects y_M_node.cls y_M_node y_M_node ∈ WS := ⟨ws_t 1102 (by decide +kernel) (by decide +kernel), ws_t 1103 (by decide +kernel) (by decide +kernel)⟩
set_option maxRecDepth 20000 in
theorem cf_M_reach : CF y_M_reach c_M_reach 1 (some .int) 0 := ⟨ws_t 1108 (by decide +kernel) (by decide +kernel), ws_t 9 (by decide +kernel) (by decide +kernel), ⟨by decide +kernel, by decide +kernel⟩, by decide +kernel⟩
set_option maxRecDepth 20000 in
theorem ci_M_reach : Cond.instanceMethod y_M_reach ∈ WS ∧ Cond.selects y_M_reach.cls y_M_reach y_M_reach ∈ WS := ⟨ws_t 1106 (by decide +kernel) (by decide +kernel), ws_t 1107 (by decide +kernel) (by decide +kernel)⟩
set_option maxRecDepth 20000 in
theorem cf_M_findNexts : CF y_M_findNexts c_M_findNexts 8 none 1 := ⟨ws_t 1116 (by decide +kernel) (by decide +kernel), ws_t 9 (by decide +kernel) (by decide +kernel), ⟨by decide +kernel, by decide +kernel⟩, by decide +kernel⟩
set_option maxRecDepth 20000 in
theorem ci_M_findNexts : Cond.instanceMethod y_M_findNexts ∈ WS ∧ Cond.selects y_M_findNexts.cls y_M_findNexts y_M_findNexts ∈ WS := ⟨ws_t 1115 (by decide +kernel) (by decide +kernel), ws_p 57 rfl⟩
set_option maxRecDepth 20000 in
theorem cf_M_nextAlong : CF y_M_nextAlong c_M_nextAlong 12 (some .long) 4 := ⟨ws_t 1120 (by decide +kernel) (by decide +kernel), ws_t 9 (by decide +kernel) (by decide +kernel), ⟨by decide +kernel, by decide +kernel⟩, by decide +kernel⟩
set_option maxRecDepth 20000 in
theorem ci_M_nextAlong : Cond.instanceMethod y_M_nextAlong ∈ WS ∧ Cond.selects y_M_nextAlong.cls y_M_nextAlong y_M_nextAlong ∈ WS := ⟨ws_t 1119 (by decide +kernel) (by decide +kernel), ws_p 58 rfl⟩
set_option maxRecDepth 20000 in
theorem cf_M_expected : CF y_M_expected c_M_expected 2 (some .long) 1 := ⟨ws_t 1112 (by decide +kernel) (by decide +kernel), ws_t 9 (by decide +kernel) (by decide +kernel), ⟨by decide +kernel, by decide +kernel⟩, by decide +kernel⟩
set_option maxRecDepth 20000 in
theorem ci_M_expected : Cond.instanceMethod y_M_expected ∈ WS ∧ Cond.selects y_M_expected.cls y_M_expected y_M_expected ∈ WS := ⟨ws_t 1110 (by decide +kernel) (by decide +kernel), ws_t 1111 (by decide +kernel) (by decide +kernel)⟩
set_option maxRecDepth 20000 in
theorem cf_M_firstOf : CF y_M_firstOf c_M_firstOf 9 (some .long) 3 := ⟨ws_t 1137 (by decide +kernel) (by decide +kernel), ws_t 9 (by decide +kernel) (by decide +kernel), ⟨by decide +kernel, by decide +kernel⟩, by decide +kernel⟩
set_option maxRecDepth 20000 in
theorem ci_M_firstOf : Cond.instanceMethod y_M_firstOf ∈ WS ∧ Cond.selects y_M_firstOf.cls y_M_firstOf y_M_firstOf ∈ WS := ⟨ws_t 1136 (by decide +kernel) (by decide +kernel), ws_p 61 rfl⟩
set_option maxRecDepth 20000 in
theorem cf_M_findSets : CF y_M_findSets c_M_findSets 4 none 0 := ⟨ws_t 1133 (by decide +kernel) (by decide +kernel), ws_t 9 (by decide +kernel) (by decide +kernel), ⟨by decide +kernel, by decide +kernel⟩, by decide +kernel⟩
set_option maxRecDepth 20000 in
theorem ci_M_findSets : Cond.instanceMethod y_M_findSets ∈ WS ∧ Cond.selects y_M_findSets.cls y_M_findSets y_M_findSets ∈ WS := ⟨ws_t 1132 (by decide +kernel) (by decide +kernel), ws_p 60 rfl⟩
set_option maxRecDepth 20000 in
theorem cf_M_followAlong : CF y_M_followAlong c_M_followAlong 5 none 2 := ⟨ws_t 1141 (by decide +kernel) (by decide +kernel), ws_t 9 (by decide +kernel) (by decide +kernel), ⟨by decide +kernel, by decide +kernel⟩, by decide +kernel⟩
set_option maxRecDepth 20000 in
theorem ci_M_followAlong : Cond.instanceMethod y_M_followAlong ∈ WS ∧ Cond.selects y_M_followAlong.cls y_M_followAlong y_M_followAlong ∈ WS := ⟨ws_t 1140 (by decide +kernel) (by decide +kernel), ws_p 62 rfl⟩
set_option maxRecDepth 20000 in
theorem cf_M_look : CF y_M_look c_M_look 2 none 1 := ⟨ws_t 1129 (by decide +kernel) (by decide +kernel), ws_t 9 (by decide +kernel) (by decide +kernel), ⟨by decide +kernel, by decide +kernel⟩, by decide +kernel⟩
set_option maxRecDepth 20000 in
theorem ci_M_look : Cond.instanceMethod y_M_look ∈ WS ∧ Cond.selects y_M_look.cls y_M_look y_M_look ∈ WS := ⟨ws_t 1128 (by decide +kernel) (by decide +kernel), ws_p 59 rfl⟩
set_option maxRecDepth 20000 in
theorem cf_M_isNothing : CF y_M_isNothing c_M_isNothing 2 (some .boolean) 1 := ⟨ws_t 1125 (by decide +kernel) (by decide +kernel), ws_t 9 (by decide +kernel) (by decide +kernel), ⟨by decide +kernel, by decide +kernel⟩, by decide +kernel⟩
set_option maxRecDepth 20000 in
theorem ci_M_isNothing : Cond.instanceMethod y_M_isNothing ∈ WS ∧ Cond.selects y_M_isNothing.cls y_M_isNothing y_M_isNothing ∈ WS := ⟨ws_t 1123 (by decide +kernel) (by decide +kernel), ws_t 1124 (by decide +kernel) (by decide +kernel)⟩
set_option maxRecDepth 20000 in
theorem cf_M_first : CF y_M_first c_M_first 2 (some .long) 1 := ⟨ws_t 1145 (by decide +kernel) (by decide +kernel), ws_t 9 (by decide +kernel) (by decide +kernel), ⟨by decide +kernel, by decide +kernel⟩, by decide +kernel⟩
set_option maxRecDepth 20000 in
theorem ci_M_first : Cond.instanceMethod y_M_first ∈ WS ∧ Cond.selects y_M_first.cls y_M_first y_M_first ∈ WS := ⟨ws_t 1143 (by decide +kernel) (by decide +kernel), ws_t 1144 (by decide +kernel) (by decide +kernel)⟩
set_option maxRecDepth 20000 in
theorem cf_M_following : CF y_M_following c_M_following 2 (some .long) 1 := ⟨ws_t 1149 (by decide +kernel) (by decide +kernel), ws_t 9 (by decide +kernel) (by decide +kernel), ⟨by decide +kernel, by decide +kernel⟩, by decide +kernel⟩
set_option maxRecDepth 20000 in
theorem ci_M_following : Cond.instanceMethod y_M_following ∈ WS ∧ Cond.selects y_M_following.cls y_M_following y_M_following ∈ WS := ⟨ws_t 1147 (by decide +kernel) (by decide +kernel), ws_t 1148 (by decide +kernel) (by decide +kernel)⟩
set_option maxRecDepth 20000 in
theorem cf_M_lets : CF y_M_lets c_M_lets 6 (some .int) 2 := ⟨ws_t 1153 (by decide +kernel) (by decide +kernel), ws_t 9 (by decide +kernel) (by decide +kernel), ⟨by decide +kernel, by decide +kernel⟩, by decide +kernel⟩
set_option maxRecDepth 20000 in
theorem ci_M_lets : Cond.instanceMethod y_M_lets ∈ WS ∧ Cond.selects y_M_lets.cls y_M_lets y_M_lets ∈ WS := ⟨ws_t 1151 (by decide +kernel) (by decide +kernel), ws_t 1152 (by decide +kernel) (by decide +kernel)⟩
set_option maxRecDepth 20000 in
theorem cf_M_count : CF y_M_count c_M_count 2 (some .int) 1 := ⟨ws_t 1157 (by decide +kernel) (by decide +kernel), ws_t 9 (by decide +kernel) (by decide +kernel), ⟨by decide +kernel, by decide +kernel⟩, by decide +kernel⟩
set_option maxRecDepth 20000 in
theorem ci_M_count : Cond.instanceMethod y_M_count ∈ WS ∧ Cond.selects y_M_count.cls y_M_count y_M_count ∈ WS := ⟨ws_t 1155 (by decide +kernel) (by decide +kernel), ws_t 1156 (by decide +kernel) (by decide +kernel)⟩
set_option maxRecDepth 20000 in
theorem cf_C_init : CF y_C_init c_C_init 4 none 3 := ⟨ws_t 100 (by decide +kernel) (by decide +kernel), ws_t 5 (by decide +kernel) (by decide +kernel), ⟨by decide +kernel, by decide +kernel⟩, by decide +kernel⟩
set_option maxRecDepth 20000 in
theorem ci_C_init : Cond.instanceMethod y_C_init ∈ WS := ws_t 99 (by decide +kernel) (by decide +kernel)
set_option maxRecDepth 20000 in
theorem cf_C_fill : CF y_C_fill c_C_fill 4 none 1 := ⟨ws_t 581 (by decide +kernel) (by decide +kernel), ws_t 5 (by decide +kernel) (by decide +kernel), ⟨by decide +kernel, by decide +kernel⟩, by decide +kernel⟩
set_option maxRecDepth 20000 in
theorem ci_C_fill : Cond.instanceMethod y_C_fill ∈ WS ∧ Cond.selects y_C_fill.cls y_C_fill y_C_fill ∈ WS := ⟨ws_t 579 (by decide +kernel) (by decide +kernel), ws_t 580 (by decide +kernel) (by decide +kernel)⟩
set_option maxRecDepth 20000 in
theorem cf_C_hasTree : CF y_C_hasTree c_C_hasTree 1 (some .boolean) 0 := ⟨ws_t 627 (by decide +kernel) (by decide +kernel), ws_t 5 (by decide +kernel) (by decide +kernel), ⟨by decide +kernel, by decide +kernel⟩, by decide +kernel⟩
set_option maxRecDepth 20000 in
theorem ci_C_hasTree : Cond.instanceMethod y_C_hasTree ∈ WS ∧ Cond.selects y_C_hasTree.cls y_C_hasTree y_C_hasTree ∈ WS := ⟨ws_t 625 (by decide +kernel) (by decide +kernel), ws_t 626 (by decide +kernel) (by decide +kernel)⟩
set_option maxRecDepth 20000 in
theorem cf_C_farOfAll : CF y_C_farOfAll c_C_farOfAll 1 (some .int) 0 := ⟨ws_t 819 (by decide +kernel) (by decide +kernel), ws_t 5 (by decide +kernel) (by decide +kernel), ⟨by decide +kernel, by decide +kernel⟩, by decide +kernel⟩
set_option maxRecDepth 20000 in
theorem ci_C_farOfAll : Cond.instanceMethod y_C_farOfAll ∈ WS ∧ Cond.selects y_C_farOfAll.cls y_C_farOfAll y_C_farOfAll ∈ WS := ⟨ws_t 817 (by decide +kernel) (by decide +kernel), ws_t 818 (by decide +kernel) (by decide +kernel)⟩
set_option maxRecDepth 20000 in
theorem cf_C_soonOfAll : CF y_C_soonOfAll c_C_soonOfAll 1 (some .long) 0 := ⟨ws_t 831 (by decide +kernel) (by decide +kernel), ws_t 5 (by decide +kernel) (by decide +kernel), ⟨by decide +kernel, by decide +kernel⟩, by decide +kernel⟩
set_option maxRecDepth 20000 in
theorem ci_C_soonOfAll : Cond.instanceMethod y_C_soonOfAll ∈ WS ∧ Cond.selects y_C_soonOfAll.cls y_C_soonOfAll y_C_soonOfAll ∈ WS := ⟨ws_t 829 (by decide +kernel) (by decide +kernel), ws_t 830 (by decide +kernel) (by decide +kernel)⟩
set_option maxRecDepth 20000 in
theorem cf_C_end : CF y_C_end c_C_end 1 (some .int) 0 := ⟨ws_t 664 (by decide +kernel) (by decide +kernel), ws_t 5 (by decide +kernel) (by decide +kernel), ⟨by decide +kernel, by decide +kernel⟩, by decide +kernel⟩
set_option maxRecDepth 20000 in
theorem ci_C_end : Cond.instanceMethod y_C_end ∈ WS ∧ Cond.selects y_C_end.cls y_C_end y_C_end ∈ WS := ⟨ws_t 662 (by decide +kernel) (by decide +kernel), ws_t 663 (by decide +kernel) (by decide +kernel)⟩
set_option maxRecDepth 20000 in
theorem cf_C_at : CF y_C_at c_C_at 2 (some .int) 2 := ⟨ws_t 620 (by decide +kernel) (by decide +kernel), ws_t 5 (by decide +kernel) (by decide +kernel), ⟨by decide +kernel, by decide +kernel⟩, by decide +kernel⟩
set_option maxRecDepth 20000 in
theorem ci_C_at : Cond.static y_C_at ∈ WS := ws_t 619 (by decide +kernel) (by decide +kernel)
set_option maxRecDepth 20000 in
theorem cf_C_rowFits : CF y_C_rowFits c_C_rowFits 2 (some .long) 1 := ⟨ws_t 693 (by decide +kernel) (by decide +kernel), ws_t 5 (by decide +kernel) (by decide +kernel), ⟨by decide +kernel, by decide +kernel⟩, by decide +kernel⟩
set_option maxRecDepth 20000 in
theorem ci_C_rowFits : Cond.instanceMethod y_C_rowFits ∈ WS ∧ Cond.selects y_C_rowFits.cls y_C_rowFits y_C_rowFits ∈ WS := ⟨ws_t 691 (by decide +kernel) (by decide +kernel), ws_t 692 (by decide +kernel) (by decide +kernel)⟩
set_option maxRecDepth 20000 in
theorem cf_C_rowFar : CF y_C_rowFar c_C_rowFar 2 (some .int) 1 := ⟨ws_t 689 (by decide +kernel) (by decide +kernel), ws_t 5 (by decide +kernel) (by decide +kernel), ⟨by decide +kernel, by decide +kernel⟩, by decide +kernel⟩
set_option maxRecDepth 20000 in
theorem ci_C_rowFar : Cond.instanceMethod y_C_rowFar ∈ WS ∧ Cond.selects y_C_rowFar.cls y_C_rowFar y_C_rowFar ∈ WS := ⟨ws_t 687 (by decide +kernel) (by decide +kernel), ws_t 688 (by decide +kernel) (by decide +kernel)⟩
set_option maxRecDepth 20000 in
theorem cf_C_ruleFits : CF y_C_ruleFits c_C_ruleFits 2 (some .long) 1 := ⟨ws_t 743 (by decide +kernel) (by decide +kernel), ws_t 5 (by decide +kernel) (by decide +kernel), ⟨by decide +kernel, by decide +kernel⟩, by decide +kernel⟩
set_option maxRecDepth 20000 in
theorem ci_C_ruleFits : Cond.instanceMethod y_C_ruleFits ∈ WS ∧ Cond.selects y_C_ruleFits.cls y_C_ruleFits y_C_ruleFits ∈ WS := ⟨ws_t 741 (by decide +kernel) (by decide +kernel), ws_t 742 (by decide +kernel) (by decide +kernel)⟩
set_option maxRecDepth 20000 in
theorem cf_C_ruleFar : CF y_C_ruleFar c_C_ruleFar 2 (some .int) 1 := ⟨ws_t 739 (by decide +kernel) (by decide +kernel), ws_t 5 (by decide +kernel) (by decide +kernel), ⟨by decide +kernel, by decide +kernel⟩, by decide +kernel⟩
set_option maxRecDepth 20000 in
theorem ci_C_ruleFar : Cond.instanceMethod y_C_ruleFar ∈ WS ∧ Cond.selects y_C_ruleFar.cls y_C_ruleFar y_C_ruleFar ∈ WS := ⟨ws_t 737 (by decide +kernel) (by decide +kernel), ws_t 738 (by decide +kernel) (by decide +kernel)⟩
set_option maxRecDepth 20000 in
theorem cf_C_findPlaces : CF y_C_findPlaces c_C_findPlaces 2 none 0 := ⟨ws_t 585 (by decide +kernel) (by decide +kernel), ws_t 5 (by decide +kernel) (by decide +kernel), ⟨by decide +kernel, by decide +kernel⟩, by decide +kernel⟩
set_option maxRecDepth 20000 in
theorem ci_C_findPlaces : Cond.instanceMethod y_C_findPlaces ∈ WS ∧ Cond.selects y_C_findPlaces.cls y_C_findPlaces y_C_findPlaces ∈ WS := ⟨ws_t 584 (by decide +kernel) (by decide +kernel), ws_p 17 rfl⟩
set_option maxRecDepth 20000 in
theorem cf_C_fillRule : CF y_C_fillRule c_C_fillRule 10 none 2 := ⟨ws_t 598 (by decide +kernel) (by decide +kernel), ws_t 5 (by decide +kernel) (by decide +kernel), ⟨by decide +kernel, by decide +kernel⟩, by decide +kernel⟩
set_option maxRecDepth 20000 in
theorem ci_C_fillRule : Cond.instanceMethod y_C_fillRule ∈ WS ∧ Cond.selects y_C_fillRule.cls y_C_fillRule y_C_fillRule ∈ WS := ⟨ws_t 597 (by decide +kernel) (by decide +kernel), ws_p 18 rfl⟩
set_option maxRecDepth 20000 in
theorem cf_C_readRow : CF y_C_readRow c_C_readRow 5 none 2 := ⟨ws_t 604 (by decide +kernel) (by decide +kernel), ws_t 5 (by decide +kernel) (by decide +kernel), ⟨by decide +kernel, by decide +kernel⟩, by decide +kernel⟩
set_option maxRecDepth 20000 in
theorem ci_C_readRow : Cond.instanceMethod y_C_readRow ∈ WS ∧ Cond.selects y_C_readRow.cls y_C_readRow y_C_readRow ∈ WS := ⟨ws_t 603 (by decide +kernel) (by decide +kernel), ws_p 19 rfl⟩
set_option maxRecDepth 20000 in
theorem cf_C_readToken : CF y_C_readToken c_C_readToken 3 none 1 := ⟨ws_t 611 (by decide +kernel) (by decide +kernel), ws_t 5 (by decide +kernel) (by decide +kernel), ⟨by decide +kernel, by decide +kernel⟩, by decide +kernel⟩
set_option maxRecDepth 20000 in
theorem ci_C_readToken : Cond.instanceMethod y_C_readToken ∈ WS ∧ Cond.selects y_C_readToken.cls y_C_readToken y_C_readToken ∈ WS := ⟨ws_t 610 (by decide +kernel) (by decide +kernel), ws_p 20 rfl⟩
set_option maxRecDepth 20000 in
theorem cf_C_readRule : CF y_C_readRule c_C_readRule 7 none 2 := ⟨ws_t 617 (by decide +kernel) (by decide +kernel), ws_t 5 (by decide +kernel) (by decide +kernel), ⟨by decide +kernel, by decide +kernel⟩, by decide +kernel⟩
set_option maxRecDepth 20000 in
theorem ci_C_readRule : Cond.instanceMethod y_C_readRule ∈ WS ∧ Cond.selects y_C_readRule.cls y_C_readRule y_C_readRule ∈ WS := ⟨ws_t 616 (by decide +kernel) (by decide +kernel), ws_p 21 rfl⟩
set_option maxRecDepth 20000 in
theorem cf_G_init : CF y_G_init c_G_init 1 none 0 := ⟨ws_t 32 (by decide +kernel) (by decide +kernel), ws_t 2 (by decide +kernel) (by decide +kernel), ⟨by decide +kernel, by decide +kernel⟩, by decide +kernel⟩
set_option maxRecDepth 20000 in
theorem ci_G_init : Cond.instanceMethod y_G_init ∈ WS := ws_t 31 (by decide +kernel) (by decide +kernel)
set_option maxRecDepth 20000 in
theorem cf_G_isToken : CF y_G_isToken c_G_isToken 1 (some .boolean) 1 := ⟨ws_t 289 (by decide +kernel) (by decide +kernel), ws_t 2 (by decide +kernel) (by decide +kernel), ⟨by decide +kernel, by decide +kernel⟩, by decide +kernel⟩
set_option maxRecDepth 20000 in
theorem ci_G_isToken : Cond.static y_G_isToken ∈ WS := ws_t 288 (by decide +kernel) (by decide +kernel)
set_option maxRecDepth 20000 in
theorem cf_G_ruleOf : CF y_G_ruleOf c_G_ruleOf 1 (some .int) 1 := ⟨ws_t 292 (by decide +kernel) (by decide +kernel), ws_t 2 (by decide +kernel) (by decide +kernel), ⟨by decide +kernel, by decide +kernel⟩, by decide +kernel⟩
set_option maxRecDepth 20000 in
theorem ci_G_ruleOf : Cond.static y_G_ruleOf ∈ WS := ws_t 291 (by decide +kernel) (by decide +kernel)
set_option maxRecDepth 20000 in
theorem cf_G_row : CF y_G_row c_G_row 2 (some .int) 2 := ⟨ws_t 270 (by decide +kernel) (by decide +kernel), ws_t 2 (by decide +kernel) (by decide +kernel), ⟨by decide +kernel, by decide +kernel⟩, by decide +kernel⟩
set_option maxRecDepth 20000 in
theorem ci_G_row : Cond.static y_G_row ∈ WS := ws_t 269 (by decide +kernel) (by decide +kernel)
set_option maxRecDepth 20000 in
theorem cf_G_addRule : CF y_G_addRule c_G_addRule 1 (some .int) 0 := ⟨ws_t 449 (by decide +kernel) (by decide +kernel), ws_t 2 (by decide +kernel) (by decide +kernel), ⟨by decide +kernel, by decide +kernel⟩, by decide +kernel⟩
set_option maxRecDepth 20000 in
theorem ci_G_addRule : Cond.instanceMethod y_G_addRule ∈ WS ∧ Cond.selects y_G_addRule.cls y_G_addRule y_G_addRule ∈ WS := ⟨ws_t 447 (by decide +kernel) (by decide +kernel), ws_t 448 (by decide +kernel) (by decide +kernel)⟩
set_option maxRecDepth 20000 in
theorem cf_G_addAlternative : CF y_G_addAlternative c_G_addAlternative 2 (some .int) 1 := ⟨ws_t 483 (by decide +kernel) (by decide +kernel), ws_t 2 (by decide +kernel) (by decide +kernel), ⟨by decide +kernel, by decide +kernel⟩, by decide +kernel⟩
set_option maxRecDepth 20000 in
theorem ci_G_addAlternative : Cond.instanceMethod y_G_addAlternative ∈ WS ∧ Cond.selects y_G_addAlternative.cls y_G_addAlternative y_G_addAlternative ∈ WS := ⟨ws_t 481 (by decide +kernel) (by decide +kernel), ws_t 482 (by decide +kernel) (by decide +kernel)⟩
set_option maxRecDepth 20000 in
theorem cf_G_addSymbol : CF y_G_addSymbol c_G_addSymbol 4 (some .int) 2 := ⟨ws_t 536 (by decide +kernel) (by decide +kernel), ws_t 2 (by decide +kernel) (by decide +kernel), ⟨by decide +kernel, by decide +kernel⟩, by decide +kernel⟩
set_option maxRecDepth 20000 in
theorem ci_G_addSymbol : Cond.instanceMethod y_G_addSymbol ∈ WS ∧ Cond.selects y_G_addSymbol.cls y_G_addSymbol y_G_addSymbol ∈ WS := ⟨ws_t 534 (by decide +kernel) (by decide +kernel), ws_t 535 (by decide +kernel) (by decide +kernel)⟩
set_option maxRecDepth 20000 in
theorem cf_G_loseRules : CF y_G_loseRules c_G_loseRules 2 (some .int) 0 := ⟨ws_t 247 (by decide +kernel) (by decide +kernel), ws_t 2 (by decide +kernel) (by decide +kernel), ⟨by decide +kernel, by decide +kernel⟩, by decide +kernel⟩
set_option maxRecDepth 20000 in
theorem ci_G_loseRules : Cond.instanceMethod y_G_loseRules ∈ WS ∧ Cond.selects y_G_loseRules.cls y_G_loseRules y_G_loseRules ∈ WS := ⟨ws_t 245 (by decide +kernel) (by decide +kernel), ws_t 246 (by decide +kernel) (by decide +kernel)⟩
set_option maxRecDepth 20000 in
theorem cf_G_rules : CF y_G_rules c_G_rules 1 (some .int) 0 := ⟨ws_t 263 (by decide +kernel) (by decide +kernel), ws_t 2 (by decide +kernel) (by decide +kernel), ⟨by decide +kernel, by decide +kernel⟩, by decide +kernel⟩
set_option maxRecDepth 20000 in
theorem ci_G_rules : Cond.instanceMethod y_G_rules ∈ WS ∧ Cond.selects y_G_rules.cls y_G_rules y_G_rules ∈ WS := ⟨ws_t 261 (by decide +kernel) (by decide +kernel), ws_t 262 (by decide +kernel) (by decide +kernel)⟩
set_option maxRecDepth 20000 in
theorem cf_G_alternatives : CF y_G_alternatives c_G_alternatives 2 (some .int) 1 := ⟨ws_t 267 (by decide +kernel) (by decide +kernel), ws_t 2 (by decide +kernel) (by decide +kernel), ⟨by decide +kernel, by decide +kernel⟩, by decide +kernel⟩
set_option maxRecDepth 20000 in
theorem ci_G_alternatives : Cond.instanceMethod y_G_alternatives ∈ WS ∧ Cond.selects y_G_alternatives.cls y_G_alternatives y_G_alternatives ∈ WS := ⟨ws_t 265 (by decide +kernel) (by decide +kernel), ws_t 266 (by decide +kernel) (by decide +kernel)⟩
set_option maxRecDepth 20000 in
theorem cf_G_latestRow : CF y_G_latestRow c_G_latestRow 2 (some .int) 1 := ⟨ws_t 487 (by decide +kernel) (by decide +kernel), ws_t 2 (by decide +kernel) (by decide +kernel), ⟨by decide +kernel, by decide +kernel⟩, by decide +kernel⟩
set_option maxRecDepth 20000 in
theorem ci_G_latestRow : Cond.instanceMethod y_G_latestRow ∈ WS ∧ Cond.selects y_G_latestRow.cls y_G_latestRow y_G_latestRow ∈ WS := ⟨ws_t 485 (by decide +kernel) (by decide +kernel), ws_t 486 (by decide +kernel) (by decide +kernel)⟩
set_option maxRecDepth 20000 in
theorem cf_G_length : CF y_G_length c_G_length 2 (some .int) 1 := ⟨ws_t 278 (by decide +kernel) (by decide +kernel), ws_t 2 (by decide +kernel) (by decide +kernel), ⟨by decide +kernel, by decide +kernel⟩, by decide +kernel⟩
set_option maxRecDepth 20000 in
theorem ci_G_length : Cond.instanceMethod y_G_length ∈ WS ∧ Cond.selects y_G_length.cls y_G_length y_G_length ∈ WS := ⟨ws_t 276 (by decide +kernel) (by decide +kernel), ws_t 277 (by decide +kernel) (by decide +kernel)⟩
set_option maxRecDepth 20000 in
theorem cf_G_symbolAt : CF y_G_symbolAt c_G_symbolAt 3 (some .int) 2 := ⟨ws_t 282 (by decide +kernel) (by decide +kernel), ws_t 2 (by decide +kernel) (by decide +kernel), ⟨by decide +kernel, by decide +kernel⟩, by decide +kernel⟩
set_option maxRecDepth 20000 in
theorem ci_G_symbolAt : Cond.instanceMethod y_G_symbolAt ∈ WS ∧ Cond.selects y_G_symbolAt.cls y_G_symbolAt y_G_symbolAt ∈ WS := ⟨ws_t 280 (by decide +kernel) (by decide +kernel), ws_t 281 (by decide +kernel) (by decide +kernel)⟩
set_option maxRecDepth 20000 in
theorem cf_G_rulesIn : CF y_G_rulesIn c_G_rulesIn 4 (some .int) 1 := ⟨ws_t 703 (by decide +kernel) (by decide +kernel), ws_t 2 (by decide +kernel) (by decide +kernel), ⟨by decide +kernel, by decide +kernel⟩, by decide +kernel⟩
set_option maxRecDepth 20000 in
theorem ci_G_rulesIn : Cond.instanceMethod y_G_rulesIn ∈ WS ∧ Cond.selects y_G_rulesIn.cls y_G_rulesIn y_G_rulesIn ∈ WS := ⟨ws_t 701 (by decide +kernel) (by decide +kernel), ws_t 702 (by decide +kernel) (by decide +kernel)⟩
set_option maxRecDepth 20000 in
theorem cf_I_init : CF y_I_init c_I_init 1 none 0 := ⟨ws_t 87 (by decide +kernel) (by decide +kernel), ws_t 4 (by decide +kernel) (by decide +kernel), ⟨by decide +kernel, by decide +kernel⟩, by decide +kernel⟩
set_option maxRecDepth 20000 in
theorem ci_I_init : Cond.instanceMethod y_I_init ∈ WS := ws_t 86 (by decide +kernel) (by decide +kernel)
set_option maxRecDepth 20000 in
theorem cf_I_add : CF y_I_add c_I_add 2 (some .int) 1 := ⟨ws_t 553 (by decide +kernel) (by decide +kernel), ws_t 4 (by decide +kernel) (by decide +kernel), ⟨by decide +kernel, by decide +kernel⟩, by decide +kernel⟩
set_option maxRecDepth 20000 in
theorem ci_I_add : Cond.instanceMethod y_I_add ∈ WS ∧ Cond.selects y_I_add.cls y_I_add y_I_add ∈ WS := ⟨ws_t 551 (by decide +kernel) (by decide +kernel), ws_t 552 (by decide +kernel) (by decide +kernel)⟩
set_option maxRecDepth 20000 in
theorem cf_I_cut : CF y_I_cut c_I_cut 2 none 1 := ⟨ws_t 565 (by decide +kernel) (by decide +kernel), ws_t 4 (by decide +kernel) (by decide +kernel), ⟨by decide +kernel, by decide +kernel⟩, by decide +kernel⟩
set_option maxRecDepth 20000 in
theorem ci_I_cut : Cond.instanceMethod y_I_cut ∈ WS ∧ Cond.selects y_I_cut.cls y_I_cut y_I_cut ∈ WS := ⟨ws_t 563 (by decide +kernel) (by decide +kernel), ws_t 564 (by decide +kernel) (by decide +kernel)⟩
set_option maxRecDepth 20000 in
theorem cf_I_size : CF y_I_size c_I_size 1 (some .int) 0 := ⟨ws_t 548 (by decide +kernel) (by decide +kernel), ws_t 4 (by decide +kernel) (by decide +kernel), ⟨by decide +kernel, by decide +kernel⟩, by decide +kernel⟩
set_option maxRecDepth 20000 in
theorem ci_I_size : Cond.instanceMethod y_I_size ∈ WS ∧ Cond.selects y_I_size.cls y_I_size y_I_size ∈ WS := ⟨ws_t 546 (by decide +kernel) (by decide +kernel), ws_t 547 (by decide +kernel) (by decide +kernel)⟩
set_option maxRecDepth 20000 in
theorem cf_I_tokenAt : CF y_I_tokenAt c_I_tokenAt 2 (some .int) 1 := ⟨ws_t 589 (by decide +kernel) (by decide +kernel), ws_t 4 (by decide +kernel) (by decide +kernel), ⟨by decide +kernel, by decide +kernel⟩, by decide +kernel⟩
set_option maxRecDepth 20000 in
theorem ci_I_tokenAt : Cond.instanceMethod y_I_tokenAt ∈ WS ∧ Cond.selects y_I_tokenAt.cls y_I_tokenAt y_I_tokenAt ∈ WS := ⟨ws_t 587 (by decide +kernel) (by decide +kernel), ws_t 588 (by decide +kernel) (by decide +kernel)⟩
set_option maxRecDepth 20000 in
theorem cf_P_init : CF y_P_init c_P_init 1 none 0 := ⟨ws_t 648 (by decide +kernel) (by decide +kernel), ws_t 19 (by decide +kernel) (by decide +kernel), ⟨by decide +kernel, by decide +kernel⟩, by decide +kernel⟩
set_option maxRecDepth 20000 in
theorem ci_P_init : Cond.instanceMethod y_P_init ∈ WS := ws_t 647 (by decide +kernel) (by decide +kernel)
set_option maxRecDepth 20000 in
theorem cf_S_init : CF y_S_init c_S_init 2 none 1 := ⟨ws_t 52 (by decide +kernel) (by decide +kernel), ws_t 3 (by decide +kernel) (by decide +kernel), ⟨by decide +kernel, by decide +kernel⟩, by decide +kernel⟩
set_option maxRecDepth 20000 in
theorem ci_S_init : Cond.instanceMethod y_S_init ∈ WS := ws_t 51 (by decide +kernel) (by decide +kernel)
set_option maxRecDepth 20000 in
theorem cf_S_outdate : CF y_S_outdate c_S_outdate 1 none 0 := ⟨ws_t 243 (by decide +kernel) (by decide +kernel), ws_t 3 (by decide +kernel) (by decide +kernel), ⟨by decide +kernel, by decide +kernel⟩, by decide +kernel⟩
set_option maxRecDepth 20000 in
theorem ci_S_outdate : Cond.instanceMethod y_S_outdate ∈ WS ∧ Cond.selects y_S_outdate.cls y_S_outdate y_S_outdate ∈ WS := ⟨ws_t 241 (by decide +kernel) (by decide +kernel), ws_t 242 (by decide +kernel) (by decide +kernel)⟩
set_option maxRecDepth 20000 in
theorem cf_S_bringUpToDate : CF y_S_bringUpToDate c_S_bringUpToDate 1 none 0 := ⟨ws_t 255 (by decide +kernel) (by decide +kernel), ws_t 3 (by decide +kernel) (by decide +kernel), ⟨by decide +kernel, by decide +kernel⟩, by decide +kernel⟩
set_option maxRecDepth 20000 in
theorem ci_S_bringUpToDate : Cond.instanceMethod y_S_bringUpToDate ∈ WS ∧ Cond.selects y_S_bringUpToDate.cls y_S_bringUpToDate y_S_bringUpToDate ∈ WS := ⟨ws_t 253 (by decide +kernel) (by decide +kernel), ws_t 254 (by decide +kernel) (by decide +kernel)⟩
set_option maxRecDepth 20000 in
theorem cf_S_faultKind : CF y_S_faultKind c_S_faultKind 1 (some .int) 0 := ⟨ws_t 351 (by decide +kernel) (by decide +kernel), ws_t 3 (by decide +kernel) (by decide +kernel), ⟨by decide +kernel, by decide +kernel⟩, by decide +kernel⟩
set_option maxRecDepth 20000 in
theorem ci_S_faultKind : Cond.instanceMethod y_S_faultKind ∈ WS ∧ Cond.selects y_S_faultKind.cls y_S_faultKind y_S_faultKind ∈ WS := ⟨ws_t 349 (by decide +kernel) (by decide +kernel), ws_t 350 (by decide +kernel) (by decide +kernel)⟩
set_option maxRecDepth 20000 in
theorem cf_S_faultyRule : CF y_S_faultyRule c_S_faultyRule 1 (some .int) 0 := ⟨ws_t 359 (by decide +kernel) (by decide +kernel), ws_t 3 (by decide +kernel) (by decide +kernel), ⟨by decide +kernel, by decide +kernel⟩, by decide +kernel⟩
set_option maxRecDepth 20000 in
theorem ci_S_faultyRule : Cond.instanceMethod y_S_faultyRule ∈ WS ∧ Cond.selects y_S_faultyRule.cls y_S_faultyRule y_S_faultyRule ∈ WS := ⟨ws_t 357 (by decide +kernel) (by decide +kernel), ws_t 358 (by decide +kernel) (by decide +kernel)⟩
set_option maxRecDepth 20000 in
theorem cf_S_inOrder : CF y_S_inOrder c_S_inOrder 2 (some .int) 1 := ⟨ws_t 594 (by decide +kernel) (by decide +kernel), ws_t 3 (by decide +kernel) (by decide +kernel), ⟨by decide +kernel, by decide +kernel⟩, by decide +kernel⟩
set_option maxRecDepth 20000 in
theorem ci_S_inOrder : Cond.instanceMethod y_S_inOrder ∈ WS ∧ Cond.selects y_S_inOrder.cls y_S_inOrder y_S_inOrder ∈ WS := ⟨ws_t 592 (by decide +kernel) (by decide +kernel), ws_t 593 (by decide +kernel) (by decide +kernel)⟩
set_option maxRecDepth 20000 in
theorem cf_S_ruleIsNothing : CF y_S_ruleIsNothing c_S_ruleIsNothing 2 (some .boolean) 1 := ⟨ws_t 843 (by decide +kernel) (by decide +kernel), ws_t 3 (by decide +kernel) (by decide +kernel), ⟨by decide +kernel, by decide +kernel⟩, by decide +kernel⟩
set_option maxRecDepth 20000 in
theorem ci_S_ruleIsNothing : Cond.instanceMethod y_S_ruleIsNothing ∈ WS ∧ Cond.selects y_S_ruleIsNothing.cls y_S_ruleIsNothing y_S_ruleIsNothing ∈ WS := ⟨ws_t 841 (by decide +kernel) (by decide +kernel), ws_t 842 (by decide +kernel) (by decide +kernel)⟩
set_option maxRecDepth 20000 in
theorem cf_S_ruleFirst : CF y_S_ruleFirst c_S_ruleFirst 2 (some .long) 1 := ⟨ws_t 854 (by decide +kernel) (by decide +kernel), ws_t 3 (by decide +kernel) (by decide +kernel), ⟨by decide +kernel, by decide +kernel⟩, by decide +kernel⟩
set_option maxRecDepth 20000 in
theorem ci_S_ruleFirst : Cond.instanceMethod y_S_ruleFirst ∈ WS ∧ Cond.selects y_S_ruleFirst.cls y_S_ruleFirst y_S_ruleFirst ∈ WS := ⟨ws_t 852 (by decide +kernel) (by decide +kernel), ws_t 853 (by decide +kernel) (by decide +kernel)⟩
set_option maxRecDepth 20000 in
theorem cf_S_ruleFollowing : CF y_S_ruleFollowing c_S_ruleFollowing 2 (some .long) 1 := ⟨ws_t 865 (by decide +kernel) (by decide +kernel), ws_t 3 (by decide +kernel) (by decide +kernel), ⟨by decide +kernel, by decide +kernel⟩, by decide +kernel⟩
set_option maxRecDepth 20000 in
theorem ci_S_ruleFollowing : Cond.instanceMethod y_S_ruleFollowing ∈ WS ∧ Cond.selects y_S_ruleFollowing.cls y_S_ruleFollowing y_S_ruleFollowing ∈ WS := ⟨ws_t 863 (by decide +kernel) (by decide +kernel), ws_t 864 (by decide +kernel) (by decide +kernel)⟩
set_option maxRecDepth 20000 in
theorem cf_S_letIn : CF y_S_letIn c_S_letIn 6 (some .int) 2 := ⟨ws_t 876 (by decide +kernel) (by decide +kernel), ws_t 3 (by decide +kernel) (by decide +kernel), ⟨by decide +kernel, by decide +kernel⟩, by decide +kernel⟩
set_option maxRecDepth 20000 in
theorem ci_S_letIn : Cond.instanceMethod y_S_letIn ∈ WS ∧ Cond.selects y_S_letIn.cls y_S_letIn y_S_letIn ∈ WS := ⟨ws_t 874 (by decide +kernel) (by decide +kernel), ws_t 875 (by decide +kernel) (by decide +kernel)⟩
set_option maxRecDepth 20000 in
theorem cf_S_findNothing : CF y_S_findNothing c_S_findNothing 6 none 0 := ⟨ws_t 259 (by decide +kernel) (by decide +kernel), ws_t 3 (by decide +kernel) (by decide +kernel), ⟨by decide +kernel, by decide +kernel⟩, by decide +kernel⟩
set_option maxRecDepth 20000 in
theorem ci_S_findNothing : Cond.instanceMethod y_S_findNothing ∈ WS ∧ Cond.selects y_S_findNothing.cls y_S_findNothing y_S_findNothing ∈ WS := ⟨ws_t 258 (by decide +kernel) (by decide +kernel), ws_p 0 rfl⟩
set_option maxRecDepth 20000 in
theorem cf_S_rowIsNothing : CF y_S_rowIsNothing c_S_rowIsNothing 3 (some .boolean) 1 := ⟨ws_t 274 (by decide +kernel) (by decide +kernel), ws_t 3 (by decide +kernel) (by decide +kernel), ⟨by decide +kernel, by decide +kernel⟩, by decide +kernel⟩
set_option maxRecDepth 20000 in
theorem ci_S_rowIsNothing : Cond.instanceMethod y_S_rowIsNothing ∈ WS ∧ Cond.selects y_S_rowIsNothing.cls y_S_rowIsNothing y_S_rowIsNothing ∈ WS := ⟨ws_t 273 (by decide +kernel) (by decide +kernel), ws_p 1 rfl⟩
set_option maxRecDepth 20000 in
theorem cf_S_symbolIsNothing : CF y_S_symbolIsNothing c_S_symbolIsNothing 2 (some .boolean) 1 := ⟨ws_t 286 (by decide +kernel) (by decide +kernel), ws_t 3 (by decide +kernel) (by decide +kernel), ⟨by decide +kernel, by decide +kernel⟩, by decide +kernel⟩
set_option maxRecDepth 20000 in
theorem ci_S_symbolIsNothing : Cond.instanceMethod y_S_symbolIsNothing ∈ WS ∧ Cond.selects y_S_symbolIsNothing.cls y_S_symbolIsNothing y_S_symbolIsNothing ∈ WS := ⟨ws_t 285 (by decide +kernel) (by decide +kernel), ws_p 2 rfl⟩
set_option maxRecDepth 20000 in
theorem cf_S_findLeft : CF y_S_findLeft c_S_findLeft 3 none 0 := ⟨ws_t 299 (by decide +kernel) (by decide +kernel), ws_t 3 (by decide +kernel) (by decide +kernel), ⟨by decide +kernel, by decide +kernel⟩, by decide +kernel⟩
set_option maxRecDepth 20000 in
theorem ci_S_findLeft : Cond.instanceMethod y_S_findLeft ∈ WS ∧ Cond.selects y_S_findLeft.cls y_S_findLeft y_S_findLeft ∈ WS := ⟨ws_t 298 (by decide +kernel) (by decide +kernel), ws_p 3 rfl⟩
set_option maxRecDepth 20000 in
theorem cf_S_rulesAtLeft : CF y_S_rulesAtLeft c_S_rulesAtLeft 5 (some .int) 1 := ⟨ws_t 303 (by decide +kernel) (by decide +kernel), ws_t 3 (by decide +kernel) (by decide +kernel), ⟨by decide +kernel, by decide +kernel⟩, by decide +kernel⟩
set_option maxRecDepth 20000 in
theorem ci_S_rulesAtLeft : Cond.instanceMethod y_S_rulesAtLeft ∈ WS ∧ Cond.selects y_S_rulesAtLeft.cls y_S_rulesAtLeft y_S_rulesAtLeft ∈ WS := ⟨ws_t 302 (by decide +kernel) (by decide +kernel), ws_p 4 rfl⟩
set_option maxRecDepth 20000 in
theorem cf_S_findFault : CF y_S_findFault c_S_findFault 3 none 0 := ⟨ws_t 307 (by decide +kernel) (by decide +kernel), ws_t 3 (by decide +kernel) (by decide +kernel), ⟨by decide +kernel, by decide +kernel⟩, by decide +kernel⟩
set_option maxRecDepth 20000 in
theorem ci_S_findFault : Cond.instanceMethod y_S_findFault ∈ WS ∧ Cond.selects y_S_findFault.cls y_S_findFault y_S_findFault ∈ WS := ⟨ws_t 306 (by decide +kernel) (by decide +kernel), ws_p 5 rfl⟩
set_option maxRecDepth 20000 in
theorem cf_S_hasFault : CF y_S_hasFault c_S_hasFault 3 (some .boolean) 2 := ⟨ws_t 311 (by decide +kernel) (by decide +kernel), ws_t 3 (by decide +kernel) (by decide +kernel), ⟨by decide +kernel, by decide +kernel⟩, by decide +kernel⟩
set_option maxRecDepth 20000 in
theorem ci_S_hasFault : Cond.instanceMethod y_S_hasFault ∈ WS ∧ Cond.selects y_S_hasFault.cls y_S_hasFault y_S_hasFault ∈ WS := ⟨ws_t 310 (by decide +kernel) (by decide +kernel), ws_p 6 rfl⟩
set_option maxRecDepth 20000 in
theorem cf_S_hasSymbolNotThere : CF y_S_hasSymbolNotThere c_S_hasSymbolNotThere 5 (some .boolean) 1 := ⟨ws_t 315 (by decide +kernel) (by decide +kernel), ws_t 3 (by decide +kernel) (by decide +kernel), ⟨by decide +kernel, by decide +kernel⟩, by decide +kernel⟩
set_option maxRecDepth 20000 in
theorem ci_S_hasSymbolNotThere : Cond.instanceMethod y_S_hasSymbolNotThere ∈ WS ∧ Cond.selects y_S_hasSymbolNotThere.cls y_S_hasSymbolNotThere y_S_hasSymbolNotThere ∈ WS := ⟨ws_t 314 (by decide +kernel) (by decide +kernel), ws_p 7 rfl⟩
set_option maxRecDepth 20000 in
theorem cf_S_findOrder : CF y_S_findOrder c_S_findOrder 4 none 0 := ⟨ws_t 319 (by decide +kernel) (by decide +kernel), ws_t 3 (by decide +kernel) (by decide +kernel), ⟨by decide +kernel, by decide +kernel⟩, by decide +kernel⟩
set_option maxRecDepth 20000 in
theorem ci_S_findOrder : Cond.instanceMethod y_S_findOrder ∈ WS ∧ Cond.selects y_S_findOrder.cls y_S_findOrder y_S_findOrder ∈ WS := ⟨ws_t 318 (by decide +kernel) (by decide +kernel), ws_p 8 rfl⟩
set_option maxRecDepth 20000 in
theorem cf_S_findFirsts : CF y_S_findFirsts c_S_findFirsts 6 none 0 := ⟨ws_t 329 (by decide +kernel) (by decide +kernel), ws_t 3 (by decide +kernel) (by decide +kernel), ⟨by decide +kernel, by decide +kernel⟩, by decide +kernel⟩
set_option maxRecDepth 20000 in
theorem ci_S_findFirsts : Cond.instanceMethod y_S_findFirsts ∈ WS ∧ Cond.selects y_S_findFirsts.cls y_S_findFirsts y_S_findFirsts ∈ WS := ⟨ws_t 328 (by decide +kernel) (by decide +kernel), ws_p 9 rfl⟩
set_option maxRecDepth 20000 in
theorem cf_S_rowFirst : CF y_S_rowFirst c_S_rowFirst 6 (some .long) 1 := ⟨ws_t 333 (by decide +kernel) (by decide +kernel), ws_t 3 (by decide +kernel) (by decide +kernel), ⟨by decide +kernel, by decide +kernel⟩, by decide +kernel⟩
set_option maxRecDepth 20000 in
theorem ci_S_rowFirst : Cond.instanceMethod y_S_rowFirst ∈ WS ∧ Cond.selects y_S_rowFirst.cls y_S_rowFirst y_S_rowFirst ∈ WS := ⟨ws_t 332 (by decide +kernel) (by decide +kernel), ws_p 10 rfl⟩
set_option maxRecDepth 20000 in
theorem cf_S_symbolFirst : CF y_S_symbolFirst c_S_symbolFirst 2 (some .long) 1 := ⟨ws_t 337 (by decide +kernel) (by decide +kernel), ws_t 3 (by decide +kernel) (by decide +kernel), ⟨by decide +kernel, by decide +kernel⟩, by decide +kernel⟩
set_option maxRecDepth 20000 in
theorem ci_S_symbolFirst : Cond.instanceMethod y_S_symbolFirst ∈ WS ∧ Cond.selects y_S_symbolFirst.cls y_S_symbolFirst y_S_symbolFirst ∈ WS := ⟨ws_t 336 (by decide +kernel) (by decide +kernel), ws_p 11 rfl⟩
set_option maxRecDepth 20000 in
theorem cf_S_findFollowings : CF y_S_findFollowings c_S_findFollowings 5 none 0 := ⟨ws_t 341 (by decide +kernel) (by decide +kernel), ws_t 3 (by decide +kernel) (by decide +kernel), ⟨by decide +kernel, by decide +kernel⟩, by decide +kernel⟩
set_option maxRecDepth 20000 in
theorem ci_S_findFollowings : Cond.instanceMethod y_S_findFollowings ∈ WS ∧ Cond.selects y_S_findFollowings.cls y_S_findFollowings y_S_findFollowings ∈ WS := ⟨ws_t 340 (by decide +kernel) (by decide +kernel), ws_p 12 rfl⟩
set_option maxRecDepth 20000 in
theorem cf_S_widenFollowings : CF y_S_widenFollowings c_S_widenFollowings 10 (some .boolean) 2 := ⟨ws_t 346 (by decide +kernel) (by decide +kernel), ws_t 3 (by decide +kernel) (by decide +kernel), ⟨by decide +kernel, by decide +kernel⟩, by decide +kernel⟩
set_option maxRecDepth 20000 in
theorem ci_S_widenFollowings : Cond.instanceMethod y_S_widenFollowings ∈ WS ∧ Cond.selects y_S_widenFollowings.cls y_S_widenFollowings y_S_widenFollowings ∈ WS := ⟨ws_t 345 (by decide +kernel) (by decide +kernel), ws_p 13 rfl⟩
set_option maxRecDepth 20000 in
theorem cf_T_init : CF y_T_init c_T_init 1 none 0 := ⟨ws_t 202 (by decide +kernel) (by decide +kernel), ws_t 8 (by decide +kernel) (by decide +kernel), ⟨by decide +kernel, by decide +kernel⟩, by decide +kernel⟩
set_option maxRecDepth 20000 in
theorem ci_T_init : Cond.instanceMethod y_T_init ∈ WS := ws_t 201 (by decide +kernel) (by decide +kernel)
set_option maxRecDepth 20000 in
theorem cf_T_empty : CF y_T_empty c_T_empty 1 none 0 := ⟨ws_t 631 (by decide +kernel) (by decide +kernel), ws_t 8 (by decide +kernel) (by decide +kernel), ⟨by decide +kernel, by decide +kernel⟩, by decide +kernel⟩
set_option maxRecDepth 20000 in
theorem ci_T_empty : Cond.instanceMethod y_T_empty ∈ WS ∧ Cond.selects y_T_empty.cls y_T_empty y_T_empty ∈ WS := ⟨ws_t 629 (by decide +kernel) (by decide +kernel), ws_t 630 (by decide +kernel) (by decide +kernel)⟩
set_option maxRecDepth 20000 in
theorem cf_T_size : CF y_T_size c_T_size 1 (some .int) 0 := ⟨ws_t 367 (by decide +kernel) (by decide +kernel), ws_t 8 (by decide +kernel) (by decide +kernel), ⟨by decide +kernel, by decide +kernel⟩, by decide +kernel⟩
set_option maxRecDepth 20000 in
theorem ci_T_size : Cond.instanceMethod y_T_size ∈ WS ∧ Cond.selects y_T_size.cls y_T_size y_T_size ∈ WS := ⟨ws_t 365 (by decide +kernel) (by decide +kernel), ws_t 366 (by decide +kernel) (by decide +kernel)⟩
set_option maxRecDepth 20000 in
theorem cf_T_fact : CF y_T_fact c_T_fact 3 (some .int) 2 := ⟨ws_t 808 (by decide +kernel) (by decide +kernel), ws_t 8 (by decide +kernel) (by decide +kernel), ⟨by decide +kernel, by decide +kernel⟩, by decide +kernel⟩
set_option maxRecDepth 20000 in
theorem ci_T_fact : Cond.instanceMethod y_T_fact ∈ WS ∧ Cond.selects y_T_fact.cls y_T_fact y_T_fact ∈ WS := ⟨ws_t 806 (by decide +kernel) (by decide +kernel), ws_t 807 (by decide +kernel) (by decide +kernel)⟩
set_option maxRecDepth 20000 in
theorem cf_T_add : CF y_T_add c_T_add 5 (some .int) 3 := ⟨ws_t 710 (by decide +kernel) (by decide +kernel), ws_t 8 (by decide +kernel) (by decide +kernel), ⟨by decide +kernel, by decide +kernel⟩, by decide +kernel⟩
set_option maxRecDepth 20000 in
theorem ci_T_add : Cond.instanceMethod y_T_add ∈ WS ∧ Cond.selects y_T_add.cls y_T_add y_T_add ∈ WS := ⟨ws_t 708 (by decide +kernel) (by decide +kernel), ws_t 709 (by decide +kernel) (by decide +kernel)⟩
set_option maxRecDepth 20000 in
theorem cf_T_choose : CF y_T_choose c_T_choose 7 none 5 := ⟨ws_t 721 (by decide +kernel) (by decide +kernel), ws_t 8 (by decide +kernel) (by decide +kernel), ⟨by decide +kernel, by decide +kernel⟩, by decide +kernel⟩
set_option maxRecDepth 20000 in
theorem ci_T_choose : Cond.instanceMethod y_T_choose ∈ WS ∧ Cond.selects y_T_choose.cls y_T_choose y_T_choose ∈ WS := ⟨ws_t 719 (by decide +kernel) (by decide +kernel), ws_t 720 (by decide +kernel) (by decide +kernel)⟩
set_option maxRecDepth 20000 in
theorem cf_T_findEnds : CF y_T_findEnds c_T_findEnds 5 none 0 := ⟨ws_t 747 (by decide +kernel) (by decide +kernel), ws_t 8 (by decide +kernel) (by decide +kernel), ⟨by decide +kernel, by decide +kernel⟩, by decide +kernel⟩
set_option maxRecDepth 20000 in
theorem ci_T_findEnds : Cond.instanceMethod y_T_findEnds ∈ WS ∧ Cond.selects y_T_findEnds.cls y_T_findEnds y_T_findEnds ∈ WS := ⟨ws_t 745 (by decide +kernel) (by decide +kernel), ws_t 746 (by decide +kernel) (by decide +kernel)⟩
set_option maxRecDepth 20000 in
theorem cf_K_init : CF y_K_init c_K_init 4 none 3 := ⟨ws_t 172 (by decide +kernel) (by decide +kernel), ws_t 7 (by decide +kernel) (by decide +kernel), ⟨by decide +kernel, by decide +kernel⟩, by decide +kernel⟩
set_option maxRecDepth 20000 in
theorem ci_K_init : Cond.instanceMethod y_K_init ∈ WS := ws_t 171 (by decide +kernel) (by decide +kernel)
set_option maxRecDepth 20000 in
theorem cf_K_derive : CF y_K_derive c_K_derive 4 (some .boolean) 1 := ⟨ws_t 635 (by decide +kernel) (by decide +kernel), ws_t 7 (by decide +kernel) (by decide +kernel), ⟨by decide +kernel, by decide +kernel⟩, by decide +kernel⟩
set_option maxRecDepth 20000 in
theorem ci_K_derive : Cond.instanceMethod y_K_derive ∈ WS ∧ Cond.selects y_K_derive.cls y_K_derive y_K_derive ∈ WS := ⟨ws_t 633 (by decide +kernel) (by decide +kernel), ws_t 634 (by decide +kernel) (by decide +kernel)⟩
set_option maxRecDepth 20000 in
theorem cf_K_replace : CF y_K_replace c_K_replace 8 (some .boolean) 3 := ⟨ws_t 674 (by decide +kernel) (by decide +kernel), ws_t 7 (by decide +kernel) (by decide +kernel), ⟨by decide +kernel, by decide +kernel⟩, by decide +kernel⟩
set_option maxRecDepth 20000 in
theorem ci_K_replace : Cond.instanceMethod y_K_replace ∈ WS ∧ Cond.selects y_K_replace.cls y_K_replace y_K_replace ∈ WS := ⟨ws_t 673 (by decide +kernel) (by decide +kernel), ws_p 25 rfl⟩
set_option maxRecDepth 20000 in
theorem cf_K_firstFitting : CF y_K_firstFitting c_K_firstFitting 4 (some .int) 1 := ⟨ws_t 678 (by decide +kernel) (by decide +kernel), ws_t 7 (by decide +kernel) (by decide +kernel), ⟨by decide +kernel, by decide +kernel⟩, by decide +kernel⟩
set_option maxRecDepth 20000 in
theorem ci_K_firstFitting : Cond.instanceMethod y_K_firstFitting ∈ WS ∧ Cond.selects y_K_firstFitting.cls y_K_firstFitting y_K_firstFitting ∈ WS := ⟨ws_t 677 (by decide +kernel) (by decide +kernel), ws_p 26 rfl⟩
set_option maxRecDepth 20000 in
theorem cf_K_look : CF y_K_look c_K_look 5 (some .int) 2 := ⟨ws_t 714 (by decide +kernel) (by decide +kernel), ws_t 7 (by decide +kernel) (by decide +kernel), ⟨by decide +kernel, by decide +kernel⟩, by decide +kernel⟩
set_option maxRecDepth 20000 in
theorem ci_K_look : Cond.instanceMethod y_K_look ∈ WS ∧ Cond.selects y_K_look.cls y_K_look y_K_look ∈ WS := ⟨ws_t 713 (by decide +kernel) (by decide +kernel), ws_p 29 rfl⟩
set_option maxRecDepth 20000 in
theorem cf_K_reachOfRow : CF y_K_reachOfRow c_K_reachOfRow 4 (some .int) 1 := ⟨ws_t 684 (by decide +kernel) (by decide +kernel), ws_t 7 (by decide +kernel) (by decide +kernel), ⟨by decide +kernel, by decide +kernel⟩, by decide +kernel⟩
set_option maxRecDepth 20000 in
theorem ci_K_reachOfRow : Cond.instanceMethod y_K_reachOfRow ∈ WS ∧ Cond.selects y_K_reachOfRow.cls y_K_reachOfRow y_K_reachOfRow ∈ WS := ⟨ws_t 683 (by decide +kernel) (by decide +kernel), ws_p 27 rfl⟩
set_option maxRecDepth 20000 in
theorem cf_K_farthest : CF y_K_farthest c_K_farthest 8 (some .int) 4 := ⟨ws_t 697 (by decide +kernel) (by decide +kernel), ws_t 7 (by decide +kernel) (by decide +kernel), ⟨by decide +kernel, by decide +kernel⟩, by decide +kernel⟩
set_option maxRecDepth 20000 in
theorem ci_K_farthest : Cond.instanceMethod y_K_farthest ∈ WS ∧ Cond.selects y_K_farthest.cls y_K_farthest y_K_farthest ∈ WS := ⟨ws_t 696 (by decide +kernel) (by decide +kernel), ws_p 28 rfl⟩
set_option maxRecDepth 20000 in
theorem cf_K_layBottom : CF y_K_layBottom c_K_layBottom 3 none 0 := ⟨ws_t 640 (by decide +kernel) (by decide +kernel), ws_t 7 (by decide +kernel) (by decide +kernel), ⟨by decide +kernel, by decide +kernel⟩, by decide +kernel⟩
set_option maxRecDepth 20000 in
theorem ci_K_layBottom : Cond.instanceMethod y_K_layBottom ∈ WS ∧ Cond.selects y_K_layBottom.cls y_K_layBottom y_K_layBottom ∈ WS := ⟨ws_t 639 (by decide +kernel) (by decide +kernel), ws_p 22 rfl⟩
set_option maxRecDepth 20000 in
theorem cf_K_layRow : CF y_K_layRow c_K_layRow 4 none 2 := ⟨ws_t 725 (by decide +kernel) (by decide +kernel), ws_t 7 (by decide +kernel) (by decide +kernel), ⟨by decide +kernel, by decide +kernel⟩, by decide +kernel⟩
set_option maxRecDepth 20000 in
theorem ci_K_layRow : Cond.instanceMethod y_K_layRow ∈ WS ∧ Cond.selects y_K_layRow.cls y_K_layRow y_K_layRow ∈ WS := ⟨ws_t 724 (by decide +kernel) (by decide +kernel), ws_p 30 rfl⟩
set_option maxRecDepth 20000 in
theorem cf_K_lay : CF y_K_lay c_K_lay 3 none 2 := ⟨ws_t 668 (by decide +kernel) (by decide +kernel), ws_t 7 (by decide +kernel) (by decide +kernel), ⟨by decide +kernel, by decide +kernel⟩, by decide +kernel⟩
set_option maxRecDepth 20000 in
theorem ci_K_lay : Cond.instanceMethod y_K_lay ∈ WS ∧ Cond.selects y_K_lay.cls y_K_lay y_K_lay ∈ WS := ⟨ws_t 667 (by decide +kernel) (by decide +kernel), ws_p 24 rfl⟩
set_option maxRecDepth 20000 in
theorem cf_K_makeRoom : CF y_K_makeRoom c_K_makeRoom 1 none 0 := ⟨ws_t 644 (by decide +kernel) (by decide +kernel), ws_t 7 (by decide +kernel) (by decide +kernel), ⟨by decide +kernel, by decide +kernel⟩, by decide +kernel⟩
set_option maxRecDepth 20000 in
theorem ci_K_makeRoom : Cond.instanceMethod y_K_makeRoom ∈ WS ∧ Cond.selects y_K_makeRoom.cls y_K_makeRoom y_K_makeRoom ∈ WS := ⟨ws_t 643 (by decide +kernel) (by decide +kernel), ws_p 23 rfl⟩
set_option maxRecDepth 20000 in
theorem cf_K_findReaches : CF y_K_findReaches c_K_findReaches 6 none 0 := ⟨ws_t 730 (by decide +kernel) (by decide +kernel), ws_t 7 (by decide +kernel) (by decide +kernel), ⟨by decide +kernel, by decide +kernel⟩, by decide +kernel⟩
set_option maxRecDepth 20000 in
theorem ci_K_findReaches : Cond.instanceMethod y_K_findReaches ∈ WS ∧ Cond.selects y_K_findReaches.cls y_K_findReaches y_K_findReaches ∈ WS := ⟨ws_t 729 (by decide +kernel) (by decide +kernel), ws_p 31 rfl⟩
set_option maxRecDepth 20000 in
theorem cf_K_reachOfToken : CF y_K_reachOfToken c_K_reachOfToken 5 (some .int) 3 := ⟨ws_t 734 (by decide +kernel) (by decide +kernel), ws_t 7 (by decide +kernel) (by decide +kernel), ⟨by decide +kernel, by decide +kernel⟩, by decide +kernel⟩
set_option maxRecDepth 20000 in
theorem ci_K_reachOfToken : Cond.instanceMethod y_K_reachOfToken ∈ WS ∧ Cond.selects y_K_reachOfToken.cls y_K_reachOfToken y_K_reachOfToken ∈ WS := ⟨ws_t 733 (by decide +kernel) (by decide +kernel), ws_p 32 rfl⟩
set_option maxRecDepth 20000 in
theorem cf_Y_init : CF y_Y_init c_Y_init 5 none 4 := ⟨ws_t 146 (by decide +kernel) (by decide +kernel), ws_t 6 (by decide +kernel) (by decide +kernel), ⟨by decide +kernel, by decide +kernel⟩, by decide +kernel⟩
set_option maxRecDepth 20000 in
theorem ci_Y_init : Cond.instanceMethod y_Y_init ∈ WS := ws_t 145 (by decide +kernel) (by decide +kernel)
set_option maxRecDepth 20000 in
theorem cf_Y_ofWholeInput : CF y_Y_ofWholeInput c_Y_ofWholeInput 3 (some .int) 0 := ⟨ws_t 752 (by decide +kernel) (by decide +kernel), ws_t 6 (by decide +kernel) (by decide +kernel), ⟨by decide +kernel, by decide +kernel⟩, by decide +kernel⟩
set_option maxRecDepth 20000 in
theorem ci_Y_ofWholeInput : Cond.instanceMethod y_Y_ofWholeInput ∈ WS ∧ Cond.selects y_Y_ofWholeInput.cls y_Y_ofWholeInput y_Y_ofWholeInput ∈ WS := ⟨ws_t 750 (by decide +kernel) (by decide +kernel), ws_t 751 (by decide +kernel) (by decide +kernel)⟩
set_option maxRecDepth 20000 in
theorem cf_Y_at : CF y_Y_at c_Y_at 3 (some .int) 3 := ⟨ws_t 762 (by decide +kernel) (by decide +kernel), ws_t 6 (by decide +kernel) (by decide +kernel), ⟨by decide +kernel, by decide +kernel⟩, by decide +kernel⟩
set_option maxRecDepth 20000 in
theorem ci_Y_at : Cond.static y_Y_at ∈ WS := ws_t 761 (by decide +kernel) (by decide +kernel)
set_option maxRecDepth 20000 in
theorem cf_Y_fillRule : CF y_Y_fillRule c_Y_fillRule 5 none 2 := ⟨ws_t 759 (by decide +kernel) (by decide +kernel), ws_t 6 (by decide +kernel) (by decide +kernel), ⟨by decide +kernel, by decide +kernel⟩, by decide +kernel⟩
set_option maxRecDepth 20000 in
theorem ci_Y_fillRule : Cond.instanceMethod y_Y_fillRule ∈ WS ∧ Cond.selects y_Y_fillRule.cls y_Y_fillRule y_Y_fillRule ∈ WS := ⟨ws_t 758 (by decide +kernel) (by decide +kernel), ws_p 33 rfl⟩
set_option maxRecDepth 20000 in
theorem cf_Y_addRow : CF y_Y_addRow c_Y_addRow 5 none 2 := ⟨ws_t 795 (by decide +kernel) (by decide +kernel), ws_t 6 (by decide +kernel) (by decide +kernel), ⟨by decide +kernel, by decide +kernel⟩, by decide +kernel⟩
set_option maxRecDepth 20000 in
theorem ci_Y_addRow : Cond.instanceMethod y_Y_addRow ∈ WS ∧ Cond.selects y_Y_addRow.cls y_Y_addRow y_Y_addRow ∈ WS := ⟨ws_t 794 (by decide +kernel) (by decide +kernel), ws_p 38 rfl⟩
set_option maxRecDepth 20000 in
theorem cf_Y_readRow : CF y_Y_readRow c_Y_readRow 5 none 2 := ⟨ws_t 770 (by decide +kernel) (by decide +kernel), ws_t 6 (by decide +kernel) (by decide +kernel), ⟨by decide +kernel, by decide +kernel⟩, by decide +kernel⟩
set_option maxRecDepth 20000 in
theorem ci_Y_readRow : Cond.instanceMethod y_Y_readRow ∈ WS ∧ Cond.selects y_Y_readRow.cls y_Y_readRow y_Y_readRow ∈ WS := ⟨ws_t 769 (by decide +kernel) (by decide +kernel), ws_p 34 rfl⟩
set_option maxRecDepth 20000 in
theorem cf_Y_readToken : CF y_Y_readToken c_Y_readToken 4 none 2 := ⟨ws_t 777 (by decide +kernel) (by decide +kernel), ws_t 6 (by decide +kernel) (by decide +kernel), ⟨by decide +kernel, by decide +kernel⟩, by decide +kernel⟩
set_option maxRecDepth 20000 in
theorem ci_Y_readToken : Cond.instanceMethod y_Y_readToken ∈ WS ∧ Cond.selects y_Y_readToken.cls y_Y_readToken y_Y_readToken ∈ WS := ⟨ws_t 776 (by decide +kernel) (by decide +kernel), ws_p 35 rfl⟩
set_option maxRecDepth 20000 in
theorem cf_Y_readRule : CF y_Y_readRule c_Y_readRule 6 none 2 := ⟨ws_t 783 (by decide +kernel) (by decide +kernel), ws_t 6 (by decide +kernel) (by decide +kernel), ⟨by decide +kernel, by decide +kernel⟩, by decide +kernel⟩
set_option maxRecDepth 20000 in
theorem ci_Y_readRule : Cond.instanceMethod y_Y_readRule ∈ WS ∧ Cond.selects y_Y_readRule.cls y_Y_readRule y_Y_readRule ∈ WS := ⟨ws_t 782 (by decide +kernel) (by decide +kernel), ws_p 36 rfl⟩
set_option maxRecDepth 20000 in
theorem cf_Y_spread : CF y_Y_spread c_Y_spread 8 none 3 := ⟨ws_t 787 (by decide +kernel) (by decide +kernel), ws_t 6 (by decide +kernel) (by decide +kernel), ⟨by decide +kernel, by decide +kernel⟩, by decide +kernel⟩
set_option maxRecDepth 20000 in
theorem ci_Y_spread : Cond.instanceMethod y_Y_spread ∈ WS ∧ Cond.selects y_Y_spread.cls y_Y_spread y_Y_spread ∈ WS := ⟨ws_t 786 (by decide +kernel) (by decide +kernel), ws_p 37 rfl⟩
set_option maxRecDepth 20000 in
theorem ml_L_65 : Cond.methodLink "FirstTreesLaw" 65 y_F_init ∈ WS := ws_t 22 (by decide +kernel) (by decide +kernel)
set_option maxRecDepth 20000 in
theorem ml_F_3 : Cond.methodLink "FirstTrees" 3 ⟨"java/lang/Object", "<init>", "()V"⟩ ∈ WS := ws_t 25 (by decide +kernel) (by decide +kernel)
set_option maxRecDepth 20000 in
theorem ml_G_3 : Cond.methodLink "FirstTrees$Grammar" 3 ⟨"java/lang/Object", "<init>", "()V"⟩ ∈ WS := ws_t 33 (by decide +kernel) (by decide +kernel)
set_option maxRecDepth 20000 in
theorem ml_F_18 : Cond.methodLink "FirstTrees" 18 y_S_init ∈ WS := ws_t 50 (by decide +kernel) (by decide +kernel)
set_option maxRecDepth 20000 in
theorem ml_S_3 : Cond.methodLink "FirstTrees$Study" 3 ⟨"java/lang/Object", "<init>", "()V"⟩ ∈ WS := ws_t 53 (by decide +kernel) (by decide +kernel)
set_option maxRecDepth 20000 in
theorem ml_I_3 : Cond.methodLink "FirstTrees$Input" 3 ⟨"java/lang/Object", "<init>", "()V"⟩ ∈ WS := ws_t 88 (by decide +kernel) (by decide +kernel)
set_option maxRecDepth 20000 in
theorem ml_F_34 : Cond.methodLink "FirstTrees" 34 y_C_init ∈ WS := ws_t 98 (by decide +kernel) (by decide +kernel)
set_option maxRecDepth 20000 in
theorem ml_C_3 : Cond.methodLink "FirstTrees$Chart" 3 ⟨"java/lang/Object", "<init>", "()V"⟩ ∈ WS := ws_t 101 (by decide +kernel) (by decide +kernel)
set_option maxRecDepth 20000 in
theorem ml_F_43 : Cond.methodLink "FirstTrees" 43 y_Y_init ∈ WS := ws_t 144 (by decide +kernel) (by decide +kernel)
set_option maxRecDepth 20000 in
theorem ml_Y_3 : Cond.methodLink "FirstTrees$Ways" 3 ⟨"java/lang/Object", "<init>", "()V"⟩ ∈ WS := ws_t 147 (by decide +kernel) (by decide +kernel)
set_option maxRecDepth 20000 in
theorem ml_F_52 : Cond.methodLink "FirstTrees" 52 y_K_init ∈ WS := ws_t 170 (by decide +kernel) (by decide +kernel)
set_option maxRecDepth 20000 in
theorem ml_K_3 : Cond.methodLink "FirstTrees$Walk" 3 ⟨"java/lang/Object", "<init>", "()V"⟩ ∈ WS := ws_t 173 (by decide +kernel) (by decide +kernel)
set_option maxRecDepth 20000 in
theorem ml_T_3 : Cond.methodLink "FirstTrees$Tree" 3 ⟨"java/lang/Object", "<init>", "()V"⟩ ∈ WS := ws_t 203 (by decide +kernel) (by decide +kernel)
set_option maxRecDepth 20000 in
theorem ml_L_86 : Cond.methodLink "FirstTreesLaw" 86 y_F_clear ∈ WS := ws_t 236 (by decide +kernel) (by decide +kernel)
set_option maxRecDepth 20000 in
theorem ml_F_80 : Cond.methodLink "FirstTrees" 80 y_S_outdate ∈ WS := ws_t 240 (by decide +kernel) (by decide +kernel)
set_option maxRecDepth 20000 in
theorem ml_F_121 : Cond.methodLink "FirstTrees" 121 y_G_loseRules ∈ WS := ws_t 244 (by decide +kernel) (by decide +kernel)
set_option maxRecDepth 20000 in
theorem ml_L_90 : Cond.methodLink "FirstTreesLaw" 90 y_F_fault ∈ WS := ws_t 248 (by decide +kernel) (by decide +kernel)
set_option maxRecDepth 20000 in
theorem ml_F_124 : Cond.methodLink "FirstTrees" 124 y_S_bringUpToDate ∈ WS := ws_t 252 (by decide +kernel) (by decide +kernel)
set_option maxRecDepth 20000 in
theorem ml_S_33 : Cond.methodLink "FirstTrees$Study" 33 y_S_findNothing ∈ WS := ws_t 256 (by decide +kernel) (by decide +kernel)
set_option maxRecDepth 20000 in
theorem ml_S_83 : Cond.methodLink "FirstTrees$Study" 83 y_G_rules ∈ WS := ws_t 260 (by decide +kernel) (by decide +kernel)
set_option maxRecDepth 20000 in
theorem ml_S_65 : Cond.methodLink "FirstTrees$Study" 65 y_G_alternatives ∈ WS := ws_t 264 (by decide +kernel) (by decide +kernel)
set_option maxRecDepth 20000 in
theorem ml_S_71 : Cond.methodLink "FirstTrees$Study" 71 y_G_row ∈ WS := ws_t 268 (by decide +kernel) (by decide +kernel)
set_option maxRecDepth 20000 in
theorem ml_S_79 : Cond.methodLink "FirstTrees$Study" 79 y_S_rowIsNothing ∈ WS := ws_t 271 (by decide +kernel) (by decide +kernel)
set_option maxRecDepth 20000 in
theorem ml_S_87 : Cond.methodLink "FirstTrees$Study" 87 y_G_length ∈ WS := ws_t 275 (by decide +kernel) (by decide +kernel)
set_option maxRecDepth 20000 in
theorem ml_S_90 : Cond.methodLink "FirstTrees$Study" 90 y_G_symbolAt ∈ WS := ws_t 279 (by decide +kernel) (by decide +kernel)
set_option maxRecDepth 20000 in
theorem ml_S_93 : Cond.methodLink "FirstTrees$Study" 93 y_S_symbolIsNothing ∈ WS := ws_t 283 (by decide +kernel) (by decide +kernel)
set_option maxRecDepth 20000 in
theorem ml_S_96 : Cond.methodLink "FirstTrees$Study" 96 y_G_isToken ∈ WS := ws_t 287 (by decide +kernel) (by decide +kernel)
set_option maxRecDepth 20000 in
theorem ml_S_99 : Cond.methodLink "FirstTrees$Study" 99 y_G_ruleOf ∈ WS := ws_t 290 (by decide +kernel) (by decide +kernel)
set_option maxRecDepth 20000 in
theorem ml_S_36 : Cond.methodLink "FirstTrees$Study" 36 y_S_findLeft ∈ WS := ws_t 296 (by decide +kernel) (by decide +kernel)
set_option maxRecDepth 20000 in
theorem ml_S_102 : Cond.methodLink "FirstTrees$Study" 102 y_S_rulesAtLeft ∈ WS := ws_t 300 (by decide +kernel) (by decide +kernel)
set_option maxRecDepth 20000 in
theorem ml_S_39 : Cond.methodLink "FirstTrees$Study" 39 y_S_findFault ∈ WS := ws_t 304 (by decide +kernel) (by decide +kernel)
set_option maxRecDepth 20000 in
theorem ml_S_105 : Cond.methodLink "FirstTrees$Study" 105 y_S_hasFault ∈ WS := ws_t 308 (by decide +kernel) (by decide +kernel)
set_option maxRecDepth 20000 in
theorem ml_S_109 : Cond.methodLink "FirstTrees$Study" 109 y_S_hasSymbolNotThere ∈ WS := ws_t 312 (by decide +kernel) (by decide +kernel)
set_option maxRecDepth 20000 in
theorem ml_S_46 : Cond.methodLink "FirstTrees$Study" 46 y_S_findOrder ∈ WS := ws_t 316 (by decide +kernel) (by decide +kernel)
set_option maxRecDepth 20000 in
theorem ml_S_112 : Cond.methodLink "FirstTrees$Study" 112 ⟨"java/lang/Integer", "bitCount", "(I)I"⟩ ∈ WS := ws_t 320 (by decide +kernel) (by decide +kernel)
set_option maxRecDepth 20000 in
theorem ml_S_49 : Cond.methodLink "FirstTrees$Study" 49 y_S_findFirsts ∈ WS := ws_t 326 (by decide +kernel) (by decide +kernel)
set_option maxRecDepth 20000 in
theorem ml_S_75 : Cond.methodLink "FirstTrees$Study" 75 y_S_rowFirst ∈ WS := ws_t 330 (by decide +kernel) (by decide +kernel)
set_option maxRecDepth 20000 in
theorem ml_S_117 : Cond.methodLink "FirstTrees$Study" 117 y_S_symbolFirst ∈ WS := ws_t 334 (by decide +kernel) (by decide +kernel)
set_option maxRecDepth 20000 in
theorem ml_S_52 : Cond.methodLink "FirstTrees$Study" 52 y_S_findFollowings ∈ WS := ws_t 338 (by decide +kernel) (by decide +kernel)
set_option maxRecDepth 20000 in
theorem ml_S_122 : Cond.methodLink "FirstTrees$Study" 122 y_S_widenFollowings ∈ WS := ws_t 343 (by decide +kernel) (by decide +kernel)
set_option maxRecDepth 20000 in
theorem ml_F_127 : Cond.methodLink "FirstTrees" 127 y_S_faultKind ∈ WS := ws_t 348 (by decide +kernel) (by decide +kernel)
set_option maxRecDepth 20000 in
theorem ml_L_94 : Cond.methodLink "FirstTreesLaw" 94 y_F_faulty ∈ WS := ws_t 352 (by decide +kernel) (by decide +kernel)
set_option maxRecDepth 20000 in
theorem ml_F_130 : Cond.methodLink "FirstTrees" 130 y_S_faultyRule ∈ WS := ws_t 356 (by decide +kernel) (by decide +kernel)
set_option maxRecDepth 20000 in
theorem ml_L_108 : Cond.methodLink "FirstTreesLaw" 108 y_F_nodes ∈ WS := ws_t 360 (by decide +kernel) (by decide +kernel)
set_option maxRecDepth 20000 in
theorem ml_F_170 : Cond.methodLink "FirstTrees" 170 y_T_size ∈ WS := ws_t 364 (by decide +kernel) (by decide +kernel)
set_option maxRecDepth 20000 in
theorem ml_L_69 : Cond.methodLink "FirstTreesLaw" 69 y_L_rule ∈ WS := ws_t 368 (by decide +kernel) (by decide +kernel)
set_option maxRecDepth 20000 in
theorem ml_L_7 : Cond.methodLink "FirstTreesLaw" 7 y_F_rule ∈ WS := ws_t 372 (by decide +kernel) (by decide +kernel)
set_option maxRecDepth 20000 in
theorem ml_F_69 : Cond.methodLink "FirstTrees" 69 y_G_rules ∈ WS := ws_t 376 (by decide +kernel) (by decide +kernel)
set_option maxRecDepth 20000 in
theorem ml_F_77 : Cond.methodLink "FirstTrees" 77 ⟨"java/lang/UnsupportedOperationException", "<init>", "(Ljava/lang/String;)V"⟩ ∈ WS := ws_t 420 (by decide +kernel) (by decide +kernel)
set_option maxRecDepth 20000 in
theorem ml_F_83 : Cond.methodLink "FirstTrees" 83 y_G_addRule ∈ WS := ws_t 446 (by decide +kernel) (by decide +kernel)
set_option maxRecDepth 20000 in
theorem ml_L_78 : Cond.methodLink "FirstTreesLaw" 78 y_L_alternative ∈ WS := ws_t 450 (by decide +kernel) (by decide +kernel)
set_option maxRecDepth 20000 in
theorem ml_L_15 : Cond.methodLink "FirstTreesLaw" 15 y_F_alternative ∈ WS := ws_t 454 (by decide +kernel) (by decide +kernel)
set_option maxRecDepth 20000 in
theorem ml_F_86 : Cond.methodLink "FirstTrees" 86 y_F_mustBeRule ∈ WS := ws_t 458 (by decide +kernel) (by decide +kernel)
set_option maxRecDepth 20000 in
theorem ml_F_175 : Cond.methodLink "FirstTrees" 175 ⟨"java/lang/IndexOutOfBoundsException", "<init>", "(Ljava/lang/String;)V"⟩ ∈ WS := ws_t 472 (by decide +kernel) (by decide +kernel)
set_option maxRecDepth 20000 in
theorem ml_F_90 : Cond.methodLink "FirstTrees" 90 y_G_alternatives ∈ WS := ws_t 478 (by decide +kernel) (by decide +kernel)
set_option maxRecDepth 20000 in
theorem ml_F_96 : Cond.methodLink "FirstTrees" 96 y_G_addAlternative ∈ WS := ws_t 480 (by decide +kernel) (by decide +kernel)
set_option maxRecDepth 20000 in
theorem ml_G_25 : Cond.methodLink "FirstTrees$Grammar" 25 y_G_latestRow ∈ WS := ws_t 484 (by decide +kernel) (by decide +kernel)
set_option maxRecDepth 20000 in
theorem ml_G_29 : Cond.methodLink "FirstTrees$Grammar" 29 y_G_row ∈ WS := ws_t 488 (by decide +kernel) (by decide +kernel)
set_option maxRecDepth 20000 in
theorem ml_L_82 : Cond.methodLink "FirstTreesLaw" 82 y_L_symbol ∈ WS := ws_t 489 (by decide +kernel) (by decide +kernel)
set_option maxRecDepth 20000 in
theorem ml_L_21 : Cond.methodLink "FirstTreesLaw" 21 y_F_symbol ∈ WS := ws_t 494 (by decide +kernel) (by decide +kernel)
set_option maxRecDepth 20000 in
theorem ml_F_103 : Cond.methodLink "FirstTrees" 103 ⟨"java/lang/IllegalArgumentException", "<init>", "(Ljava/lang/String;)V"⟩ ∈ WS := ws_t 508 (by decide +kernel) (by decide +kernel)
set_option maxRecDepth 20000 in
theorem ml_F_108 : Cond.methodLink "FirstTrees" 108 ⟨"java/lang/IllegalStateException", "<init>", "(Ljava/lang/String;)V"⟩ ∈ WS := ws_t 524 (by decide +kernel) (by decide +kernel)
set_option maxRecDepth 20000 in
theorem ml_F_109 : Cond.methodLink "FirstTrees" 109 y_G_latestRow ∈ WS := ws_t 530 (by decide +kernel) (by decide +kernel)
set_option maxRecDepth 20000 in
theorem ml_F_112 : Cond.methodLink "FirstTrees" 112 y_G_length ∈ WS := ws_t 531 (by decide +kernel) (by decide +kernel)
set_option maxRecDepth 20000 in
theorem ml_F_117 : Cond.methodLink "FirstTrees" 117 y_G_addSymbol ∈ WS := ws_t 533 (by decide +kernel) (by decide +kernel)
set_option maxRecDepth 20000 in
theorem ml_L_98 : Cond.methodLink "FirstTreesLaw" 98 y_L_token ∈ WS := ws_t 537 (by decide +kernel) (by decide +kernel)
set_option maxRecDepth 20000 in
theorem ml_L_29 : Cond.methodLink "FirstTreesLaw" 29 y_F_token ∈ WS := ws_t 540 (by decide +kernel) (by decide +kernel)
set_option maxRecDepth 20000 in
theorem ml_F_135 : Cond.methodLink "FirstTrees" 135 y_I_size ∈ WS := ws_t 545 (by decide +kernel) (by decide +kernel)
set_option maxRecDepth 20000 in
theorem ml_F_140 : Cond.methodLink "FirstTrees" 140 y_I_add ∈ WS := ws_t 550 (by decide +kernel) (by decide +kernel)
set_option maxRecDepth 20000 in
theorem ml_L_101 : Cond.methodLink "FirstTreesLaw" 101 y_L_keep ∈ WS := ws_t 554 (by decide +kernel) (by decide +kernel)
set_option maxRecDepth 20000 in
theorem ml_L_32 : Cond.methodLink "FirstTreesLaw" 32 y_F_keep ∈ WS := ws_t 557 (by decide +kernel) (by decide +kernel)
set_option maxRecDepth 20000 in
theorem ml_F_145 : Cond.methodLink "FirstTrees" 145 y_I_cut ∈ WS := ws_t 562 (by decide +kernel) (by decide +kernel)
set_option maxRecDepth 20000 in
theorem ml_L_105 : Cond.methodLink "FirstTreesLaw" 105 y_L_parse ∈ WS := ws_t 566 (by decide +kernel) (by decide +kernel)
set_option maxRecDepth 20000 in
theorem ml_L_36 : Cond.methodLink "FirstTreesLaw" 36 y_F_parse ∈ WS := ws_t 569 (by decide +kernel) (by decide +kernel)
set_option maxRecDepth 20000 in
theorem ml_F_148 : Cond.methodLink "FirstTrees" 148 y_F_mustBeRight ∈ WS := ws_t 573 (by decide +kernel) (by decide +kernel)
set_option maxRecDepth 20000 in
theorem ml_F_151 : Cond.methodLink "FirstTrees" 151 y_C_fill ∈ WS := ws_t 578 (by decide +kernel) (by decide +kernel)
set_option maxRecDepth 20000 in
theorem ml_C_47 : Cond.methodLink "FirstTrees$Chart" 47 y_C_findPlaces ∈ WS := ws_t 582 (by decide +kernel) (by decide +kernel)
set_option maxRecDepth 20000 in
theorem ml_C_74 : Cond.methodLink "FirstTrees$Chart" 74 y_I_tokenAt ∈ WS := ws_t 586 (by decide +kernel) (by decide +kernel)
set_option maxRecDepth 20000 in
theorem ml_C_50 : Cond.methodLink "FirstTrees$Chart" 50 y_G_rules ∈ WS := ws_t 590 (by decide +kernel) (by decide +kernel)
set_option maxRecDepth 20000 in
theorem ml_C_56 : Cond.methodLink "FirstTrees$Chart" 56 y_S_inOrder ∈ WS := ws_t 591 (by decide +kernel) (by decide +kernel)
set_option maxRecDepth 20000 in
theorem ml_C_62 : Cond.methodLink "FirstTrees$Chart" 62 y_C_fillRule ∈ WS := ws_t 595 (by decide +kernel) (by decide +kernel)
set_option maxRecDepth 20000 in
theorem ml_C_79 : Cond.methodLink "FirstTrees$Chart" 79 y_G_alternatives ∈ WS := ws_t 599 (by decide +kernel) (by decide +kernel)
set_option maxRecDepth 20000 in
theorem ml_C_82 : Cond.methodLink "FirstTrees$Chart" 82 y_G_row ∈ WS := ws_t 600 (by decide +kernel) (by decide +kernel)
set_option maxRecDepth 20000 in
theorem ml_C_85 : Cond.methodLink "FirstTrees$Chart" 85 y_C_readRow ∈ WS := ws_t 601 (by decide +kernel) (by decide +kernel)
set_option maxRecDepth 20000 in
theorem ml_C_103 : Cond.methodLink "FirstTrees$Chart" 103 y_G_length ∈ WS := ws_t 605 (by decide +kernel) (by decide +kernel)
set_option maxRecDepth 20000 in
theorem ml_C_106 : Cond.methodLink "FirstTrees$Chart" 106 y_G_symbolAt ∈ WS := ws_t 606 (by decide +kernel) (by decide +kernel)
set_option maxRecDepth 20000 in
theorem ml_C_109 : Cond.methodLink "FirstTrees$Chart" 109 y_G_isToken ∈ WS := ws_t 607 (by decide +kernel) (by decide +kernel)
set_option maxRecDepth 20000 in
theorem ml_C_113 : Cond.methodLink "FirstTrees$Chart" 113 y_C_readToken ∈ WS := ws_t 608 (by decide +kernel) (by decide +kernel)
set_option maxRecDepth 20000 in
theorem ml_C_117 : Cond.methodLink "FirstTrees$Chart" 117 y_G_ruleOf ∈ WS := ws_t 613 (by decide +kernel) (by decide +kernel)
set_option maxRecDepth 20000 in
theorem ml_C_120 : Cond.methodLink "FirstTrees$Chart" 120 y_C_readRule ∈ WS := ws_t 614 (by decide +kernel) (by decide +kernel)
set_option maxRecDepth 20000 in
theorem ml_C_66 : Cond.methodLink "FirstTrees$Chart" 66 y_C_at ∈ WS := ws_t 618 (by decide +kernel) (by decide +kernel)
set_option maxRecDepth 20000 in
theorem ml_C_95 : Cond.methodLink "FirstTrees$Chart" 95 ⟨"java/lang/Math", "max", "(II)I"⟩ ∈ WS := ws_t 621 (by decide +kernel) (by decide +kernel)
set_option maxRecDepth 20000 in
theorem ml_F_154 : Cond.methodLink "FirstTrees" 154 y_C_hasTree ∈ WS := ws_t 624 (by decide +kernel) (by decide +kernel)
set_option maxRecDepth 20000 in
theorem ml_F_158 : Cond.methodLink "FirstTrees" 158 y_T_empty ∈ WS := ws_t 628 (by decide +kernel) (by decide +kernel)
set_option maxRecDepth 20000 in
theorem ml_F_161 : Cond.methodLink "FirstTrees" 161 y_K_derive ∈ WS := ws_t 632 (by decide +kernel) (by decide +kernel)
set_option maxRecDepth 20000 in
theorem ml_K_29 : Cond.methodLink "FirstTrees$Walk" 29 y_T_empty ∈ WS := ws_t 636 (by decide +kernel) (by decide +kernel)
set_option maxRecDepth 20000 in
theorem ml_K_41 : Cond.methodLink "FirstTrees$Walk" 41 y_K_layBottom ∈ WS := ws_t 637 (by decide +kernel) (by decide +kernel)
set_option maxRecDepth 20000 in
theorem ml_K_143 : Cond.methodLink "FirstTrees$Walk" 143 y_K_makeRoom ∈ WS := ws_t 641 (by decide +kernel) (by decide +kernel)
set_option maxRecDepth 20000 in
theorem ml_P_3 : Cond.methodLink "FirstTrees$Pending" 3 ⟨"java/lang/Object", "<init>", "()V"⟩ ∈ WS := ws_t 649 (by decide +kernel) (by decide +kernel)
set_option maxRecDepth 20000 in
theorem ml_K_107 : Cond.methodLink "FirstTrees$Walk" 107 y_C_end ∈ WS := ws_t 661 (by decide +kernel) (by decide +kernel)
set_option maxRecDepth 20000 in
theorem ml_K_44 : Cond.methodLink "FirstTrees$Walk" 44 y_K_lay ∈ WS := ws_t 665 (by decide +kernel) (by decide +kernel)
set_option maxRecDepth 20000 in
theorem ml_K_54 : Cond.methodLink "FirstTrees$Walk" 54 y_G_isToken ∈ WS := ws_t 669 (by decide +kernel) (by decide +kernel)
set_option maxRecDepth 20000 in
theorem ml_K_60 : Cond.methodLink "FirstTrees$Walk" 60 y_G_ruleOf ∈ WS := ws_t 670 (by decide +kernel) (by decide +kernel)
set_option maxRecDepth 20000 in
theorem ml_K_67 : Cond.methodLink "FirstTrees$Walk" 67 y_K_replace ∈ WS := ws_t 671 (by decide +kernel) (by decide +kernel)
set_option maxRecDepth 20000 in
theorem ml_K_74 : Cond.methodLink "FirstTrees$Walk" 74 y_K_firstFitting ∈ WS := ws_t 675 (by decide +kernel) (by decide +kernel)
set_option maxRecDepth 20000 in
theorem ml_K_101 : Cond.methodLink "FirstTrees$Walk" 101 y_G_alternatives ∈ WS := ws_t 679 (by decide +kernel) (by decide +kernel)
set_option maxRecDepth 20000 in
theorem ml_K_77 : Cond.methodLink "FirstTrees$Walk" 77 y_G_row ∈ WS := ws_t 680 (by decide +kernel) (by decide +kernel)
set_option maxRecDepth 20000 in
theorem ml_K_104 : Cond.methodLink "FirstTrees$Walk" 104 y_K_reachOfRow ∈ WS := ws_t 681 (by decide +kernel) (by decide +kernel)
set_option maxRecDepth 20000 in
theorem ml_K_125 : Cond.methodLink "FirstTrees$Walk" 125 y_C_at ∈ WS := ws_t 685 (by decide +kernel) (by decide +kernel)
set_option maxRecDepth 20000 in
theorem ml_K_128 : Cond.methodLink "FirstTrees$Walk" 128 y_C_rowFar ∈ WS := ws_t 686 (by decide +kernel) (by decide +kernel)
set_option maxRecDepth 20000 in
theorem ml_K_131 : Cond.methodLink "FirstTrees$Walk" 131 y_C_rowFits ∈ WS := ws_t 690 (by decide +kernel) (by decide +kernel)
set_option maxRecDepth 20000 in
theorem ml_K_135 : Cond.methodLink "FirstTrees$Walk" 135 y_K_farthest ∈ WS := ws_t 694 (by decide +kernel) (by decide +kernel)
set_option maxRecDepth 20000 in
theorem ml_K_113 : Cond.methodLink "FirstTrees$Walk" 113 ⟨"java/lang/Math", "max", "(II)I"⟩ ∈ WS := ws_t 699 (by decide +kernel) (by decide +kernel)
set_option maxRecDepth 20000 in
theorem ml_K_81 : Cond.methodLink "FirstTrees$Walk" 81 y_G_rulesIn ∈ WS := ws_t 700 (by decide +kernel) (by decide +kernel)
set_option maxRecDepth 20000 in
theorem ml_G_33 : Cond.methodLink "FirstTrees$Grammar" 33 y_G_symbolAt ∈ WS := ws_t 704 (by decide +kernel) (by decide +kernel)
set_option maxRecDepth 20000 in
theorem ml_G_36 : Cond.methodLink "FirstTrees$Grammar" 36 y_G_isToken ∈ WS := ws_t 705 (by decide +kernel) (by decide +kernel)
set_option maxRecDepth 20000 in
theorem ml_K_84 : Cond.methodLink "FirstTrees$Walk" 84 y_G_length ∈ WS := ws_t 706 (by decide +kernel) (by decide +kernel)
set_option maxRecDepth 20000 in
theorem ml_K_87 : Cond.methodLink "FirstTrees$Walk" 87 y_T_add ∈ WS := ws_t 707 (by decide +kernel) (by decide +kernel)
set_option maxRecDepth 20000 in
theorem ml_K_91 : Cond.methodLink "FirstTrees$Walk" 91 y_K_look ∈ WS := ws_t 711 (by decide +kernel) (by decide +kernel)
set_option maxRecDepth 20000 in
theorem ml_K_118 : Cond.methodLink "FirstTrees$Walk" 118 ⟨"java/lang/Math", "min", "(II)I"⟩ ∈ WS := ws_t 715 (by decide +kernel) (by decide +kernel)
set_option maxRecDepth 20000 in
theorem ml_K_94 : Cond.methodLink "FirstTrees$Walk" 94 y_T_choose ∈ WS := ws_t 718 (by decide +kernel) (by decide +kernel)
set_option maxRecDepth 20000 in
theorem ml_K_98 : Cond.methodLink "FirstTrees$Walk" 98 y_K_layRow ∈ WS := ws_t 722 (by decide +kernel) (by decide +kernel)
set_option maxRecDepth 20000 in
theorem ml_K_146 : Cond.methodLink "FirstTrees$Walk" 146 y_G_symbolAt ∈ WS := ws_t 726 (by decide +kernel) (by decide +kernel)
set_option maxRecDepth 20000 in
theorem ml_K_149 : Cond.methodLink "FirstTrees$Walk" 149 y_K_findReaches ∈ WS := ws_t 727 (by decide +kernel) (by decide +kernel)
set_option maxRecDepth 20000 in
theorem ml_K_153 : Cond.methodLink "FirstTrees$Walk" 153 y_K_reachOfToken ∈ WS := ws_t 731 (by decide +kernel) (by decide +kernel)
set_option maxRecDepth 20000 in
theorem ml_K_163 : Cond.methodLink "FirstTrees$Walk" 163 y_I_tokenAt ∈ WS := ws_t 735 (by decide +kernel) (by decide +kernel)
set_option maxRecDepth 20000 in
theorem ml_K_157 : Cond.methodLink "FirstTrees$Walk" 157 y_C_ruleFar ∈ WS := ws_t 736 (by decide +kernel) (by decide +kernel)
set_option maxRecDepth 20000 in
theorem ml_K_160 : Cond.methodLink "FirstTrees$Walk" 160 y_C_ruleFits ∈ WS := ws_t 740 (by decide +kernel) (by decide +kernel)
set_option maxRecDepth 20000 in
theorem ml_K_71 : Cond.methodLink "FirstTrees$Walk" 71 y_T_findEnds ∈ WS := ws_t 744 (by decide +kernel) (by decide +kernel)
set_option maxRecDepth 20000 in
theorem ml_F_167 : Cond.methodLink "FirstTrees" 167 y_Y_ofWholeInput ∈ WS := ws_t 749 (by decide +kernel) (by decide +kernel)
set_option maxRecDepth 20000 in
theorem ml_Y_36 : Cond.methodLink "FirstTrees$Ways" 36 y_C_end ∈ WS := ws_t 753 (by decide +kernel) (by decide +kernel)
set_option maxRecDepth 20000 in
theorem ml_Y_42 : Cond.methodLink "FirstTrees$Ways" 42 y_G_rules ∈ WS := ws_t 754 (by decide +kernel) (by decide +kernel)
set_option maxRecDepth 20000 in
theorem ml_Y_47 : Cond.methodLink "FirstTrees$Ways" 47 y_S_inOrder ∈ WS := ws_t 755 (by decide +kernel) (by decide +kernel)
set_option maxRecDepth 20000 in
theorem ml_Y_53 : Cond.methodLink "FirstTrees$Ways" 53 y_Y_fillRule ∈ WS := ws_t 756 (by decide +kernel) (by decide +kernel)
set_option maxRecDepth 20000 in
theorem ml_Y_57 : Cond.methodLink "FirstTrees$Ways" 57 y_Y_at ∈ WS := ws_t 760 (by decide +kernel) (by decide +kernel)
set_option maxRecDepth 20000 in
theorem ml_Y_61 : Cond.methodLink "FirstTrees$Ways" 61 y_G_alternatives ∈ WS := ws_t 763 (by decide +kernel) (by decide +kernel)
set_option maxRecDepth 20000 in
theorem ml_Y_64 : Cond.methodLink "FirstTrees$Ways" 64 y_G_row ∈ WS := ws_t 764 (by decide +kernel) (by decide +kernel)
set_option maxRecDepth 20000 in
theorem ml_Y_68 : Cond.methodLink "FirstTrees$Ways" 68 y_C_at ∈ WS := ws_t 765 (by decide +kernel) (by decide +kernel)
set_option maxRecDepth 20000 in
theorem ml_Y_70 : Cond.methodLink "FirstTrees$Ways" 70 y_C_rowFits ∈ WS := ws_t 766 (by decide +kernel) (by decide +kernel)
set_option maxRecDepth 20000 in
theorem ml_Y_74 : Cond.methodLink "FirstTrees$Ways" 74 y_Y_readRow ∈ WS := ws_t 767 (by decide +kernel) (by decide +kernel)
set_option maxRecDepth 20000 in
theorem ml_Y_88 : Cond.methodLink "FirstTrees$Ways" 88 y_G_length ∈ WS := ws_t 771 (by decide +kernel) (by decide +kernel)
set_option maxRecDepth 20000 in
theorem ml_Y_91 : Cond.methodLink "FirstTrees$Ways" 91 y_G_symbolAt ∈ WS := ws_t 772 (by decide +kernel) (by decide +kernel)
set_option maxRecDepth 20000 in
theorem ml_Y_94 : Cond.methodLink "FirstTrees$Ways" 94 y_G_isToken ∈ WS := ws_t 773 (by decide +kernel) (by decide +kernel)
set_option maxRecDepth 20000 in
theorem ml_Y_98 : Cond.methodLink "FirstTrees$Ways" 98 y_Y_readToken ∈ WS := ws_t 774 (by decide +kernel) (by decide +kernel)
set_option maxRecDepth 20000 in
theorem ml_Y_107 : Cond.methodLink "FirstTrees$Ways" 107 y_I_tokenAt ∈ WS := ws_t 778 (by decide +kernel) (by decide +kernel)
set_option maxRecDepth 20000 in
theorem ml_Y_101 : Cond.methodLink "FirstTrees$Ways" 101 y_G_ruleOf ∈ WS := ws_t 779 (by decide +kernel) (by decide +kernel)
set_option maxRecDepth 20000 in
theorem ml_Y_104 : Cond.methodLink "FirstTrees$Ways" 104 y_Y_readRule ∈ WS := ws_t 780 (by decide +kernel) (by decide +kernel)
set_option maxRecDepth 20000 in
theorem ml_Y_112 : Cond.methodLink "FirstTrees$Ways" 112 y_Y_spread ∈ WS := ws_t 784 (by decide +kernel) (by decide +kernel)
set_option maxRecDepth 20000 in
theorem ml_Y_82 : Cond.methodLink "FirstTrees$Ways" 82 ⟨"java/lang/Math", "min", "(JJ)J"⟩ ∈ WS := ws_t 789 (by decide +kernel) (by decide +kernel)
set_option maxRecDepth 20000 in
theorem ml_Y_77 : Cond.methodLink "FirstTrees$Ways" 77 y_Y_addRow ∈ WS := ws_t 792 (by decide +kernel) (by decide +kernel)
set_option maxRecDepth 20000 in
theorem ml_L_112 : Cond.methodLink "FirstTreesLaw" 112 y_L_node ∈ WS := ws_t 796 (by decide +kernel) (by decide +kernel)
set_option maxRecDepth 20000 in
theorem ml_L_39 : Cond.methodLink "FirstTreesLaw" 39 y_F_node ∈ WS := ws_t 799 (by decide +kernel) (by decide +kernel)
set_option maxRecDepth 20000 in
theorem ml_F_178 : Cond.methodLink "FirstTrees" 178 y_T_fact ∈ WS := ws_t 805 (by decide +kernel) (by decide +kernel)
set_option maxRecDepth 20000 in
theorem ml_L_115 : Cond.methodLink "FirstTreesLaw" 115 y_L_reach ∈ WS := ws_t 809 (by decide +kernel) (by decide +kernel)
set_option maxRecDepth 20000 in
theorem ml_L_42 : Cond.methodLink "FirstTreesLaw" 42 y_F_reach ∈ WS := ws_t 812 (by decide +kernel) (by decide +kernel)
set_option maxRecDepth 20000 in
theorem ml_F_181 : Cond.methodLink "FirstTrees" 181 y_C_farOfAll ∈ WS := ws_t 816 (by decide +kernel) (by decide +kernel)
set_option maxRecDepth 20000 in
theorem ml_L_118 : Cond.methodLink "FirstTreesLaw" 118 y_L_expected ∈ WS := ws_t 820 (by decide +kernel) (by decide +kernel)
set_option maxRecDepth 20000 in
theorem ml_L_45 : Cond.methodLink "FirstTreesLaw" 45 y_F_expected ∈ WS := ws_t 823 (by decide +kernel) (by decide +kernel)
set_option maxRecDepth 20000 in
theorem ml_F_186 : Cond.methodLink "FirstTrees" 186 y_C_soonOfAll ∈ WS := ws_t 828 (by decide +kernel) (by decide +kernel)
set_option maxRecDepth 20000 in
theorem ml_L_121 : Cond.methodLink "FirstTreesLaw" 121 y_L_isNothing ∈ WS := ws_t 833 (by decide +kernel) (by decide +kernel)
set_option maxRecDepth 20000 in
theorem ml_L_49 : Cond.methodLink "FirstTreesLaw" 49 y_F_isNothing ∈ WS := ws_t 836 (by decide +kernel) (by decide +kernel)
set_option maxRecDepth 20000 in
theorem ml_F_192 : Cond.methodLink "FirstTrees" 192 y_S_ruleIsNothing ∈ WS := ws_t 840 (by decide +kernel) (by decide +kernel)
set_option maxRecDepth 20000 in
theorem ml_L_124 : Cond.methodLink "FirstTreesLaw" 124 y_L_first ∈ WS := ws_t 844 (by decide +kernel) (by decide +kernel)
set_option maxRecDepth 20000 in
theorem ml_L_53 : Cond.methodLink "FirstTreesLaw" 53 y_F_first ∈ WS := ws_t 847 (by decide +kernel) (by decide +kernel)
set_option maxRecDepth 20000 in
theorem ml_F_196 : Cond.methodLink "FirstTrees" 196 y_S_ruleFirst ∈ WS := ws_t 851 (by decide +kernel) (by decide +kernel)
set_option maxRecDepth 20000 in
theorem ml_L_127 : Cond.methodLink "FirstTreesLaw" 127 y_L_following ∈ WS := ws_t 855 (by decide +kernel) (by decide +kernel)
set_option maxRecDepth 20000 in
theorem ml_L_56 : Cond.methodLink "FirstTreesLaw" 56 y_F_following ∈ WS := ws_t 858 (by decide +kernel) (by decide +kernel)
set_option maxRecDepth 20000 in
theorem ml_F_200 : Cond.methodLink "FirstTrees" 200 y_S_ruleFollowing ∈ WS := ws_t 862 (by decide +kernel) (by decide +kernel)
set_option maxRecDepth 20000 in
theorem ml_L_130 : Cond.methodLink "FirstTreesLaw" 130 y_L_lets ∈ WS := ws_t 866 (by decide +kernel) (by decide +kernel)
set_option maxRecDepth 20000 in
theorem ml_L_59 : Cond.methodLink "FirstTreesLaw" 59 y_F_lets ∈ WS := ws_t 869 (by decide +kernel) (by decide +kernel)
set_option maxRecDepth 20000 in
theorem ml_F_203 : Cond.methodLink "FirstTrees" 203 y_S_letIn ∈ WS := ws_t 873 (by decide +kernel) (by decide +kernel)
set_option maxRecDepth 20000 in
theorem ml_L_133 : Cond.methodLink "FirstTreesLaw" 133 y_L_count ∈ WS := ws_t 877 (by decide +kernel) (by decide +kernel)
set_option maxRecDepth 20000 in
theorem ml_L_62 : Cond.methodLink "FirstTreesLaw" 62 y_F_count ∈ WS := ws_t 880 (by decide +kernel) (by decide +kernel)
set_option maxRecDepth 20000 in
theorem ml_L_68 : Cond.methodLink "FirstTreesLaw" 68 y_M_init ∈ WS := ws_t 887 (by decide +kernel) (by decide +kernel)
set_option maxRecDepth 20000 in
theorem ml_M_1 : Cond.methodLink "FirstTreesModel" 1 ⟨"java/lang/Object", "<init>", "()V"⟩ ∈ WS := ws_t 890 (by decide +kernel) (by decide +kernel)
set_option maxRecDepth 20000 in
theorem ml_L_75 : Cond.methodLink "FirstTreesLaw" 75 y_M_thrown ∈ WS := ws_t 978 (by decide +kernel) (by decide +kernel)
set_option maxRecDepth 20000 in
theorem ml_L_107 : Cond.methodLink "FirstTreesLaw" 107 y_M_parse ∈ WS := ws_t 982 (by decide +kernel) (by decide +kernel)
set_option maxRecDepth 20000 in
theorem ml_M_151 : Cond.methodLink "FirstTreesModel" 151 y_M_faultOf ∈ WS := ws_t 986 (by decide +kernel) (by decide +kernel)
set_option maxRecDepth 20000 in
theorem ml_M_77 : Cond.methodLink "FirstTreesModel" 77 y_M_sizeOf ∈ WS := ws_t 990 (by decide +kernel) (by decide +kernel)
set_option maxRecDepth 20000 in
theorem ml_M_81 : Cond.methodLink "FirstTreesModel" 81 y_M_symbolAt ∈ WS := ws_t 994 (by decide +kernel) (by decide +kernel)
set_option maxRecDepth 20000 in
theorem ml_M_99 : Cond.methodLink "FirstTreesModel" 99 y_M_findNothing ∈ WS := ws_t 998 (by decide +kernel) (by decide +kernel)
set_option maxRecDepth 20000 in
theorem ml_M_92 : Cond.methodLink "FirstTreesModel" 92 y_M_rowIsNothing ∈ WS := ws_t 1002 (by decide +kernel) (by decide +kernel)
set_option maxRecDepth 20000 in
theorem ml_M_85 : Cond.methodLink "FirstTreesModel" 85 y_M_isRule ∈ WS := ws_t 1006 (by decide +kernel) (by decide +kernel)
set_option maxRecDepth 20000 in
theorem ml_M_102 : Cond.methodLink "FirstTreesModel" 102 y_M_findLeft ∈ WS := ws_t 1009 (by decide +kernel) (by decide +kernel)
set_option maxRecDepth 20000 in
theorem ml_M_155 : Cond.methodLink "FirstTreesModel" 155 y_M_findPlaces ∈ WS := ws_t 1013 (by decide +kernel) (by decide +kernel)
set_option maxRecDepth 20000 in
theorem ml_M_115 : Cond.methodLink "FirstTreesModel" 115 y_M_makeOrder ∈ WS := ws_t 1017 (by decide +kernel) (by decide +kernel)
set_option maxRecDepth 20000 in
theorem ml_M_118 : Cond.methodLink "FirstTreesModel" 118 y_M_alongAlternative ∈ WS := ws_t 1021 (by decide +kernel) (by decide +kernel)
set_option maxRecDepth 20000 in
theorem ml_M_111 : Cond.methodLink "FirstTreesModel" 111 y_M_step ∈ WS := ws_t 1025 (by decide +kernel) (by decide +kernel)
set_option maxRecDepth 20000 in
theorem ml_M_161 : Cond.methodLink "FirstTreesModel" 161 y_M_findWays ∈ WS := ws_t 1029 (by decide +kernel) (by decide +kernel)
set_option maxRecDepth 20000 in
theorem ml_M_124 : Cond.methodLink "FirstTreesModel" 124 y_M_waysAlong ∈ WS := ws_t 1033 (by decide +kernel) (by decide +kernel)
set_option maxRecDepth 20000 in
theorem ml_M_128 : Cond.methodLink "FirstTreesModel" 128 y_M_capped ∈ WS := ws_t 1037 (by decide +kernel) (by decide +kernel)
set_option maxRecDepth 20000 in
theorem ml_M_164 : Cond.methodLink "FirstTreesModel" 164 y_M_makeTree ∈ WS := ws_t 1041 (by decide +kernel) (by decide +kernel)
set_option maxRecDepth 20000 in
theorem ml_M_148 : Cond.methodLink "FirstTreesModel" 148 y_M_makeNode ∈ WS := ws_t 1045 (by decide +kernel) (by decide +kernel)
set_option maxRecDepth 20000 in
theorem ml_M_138 : Cond.methodLink "FirstTreesModel" 138 y_M_reachOf ∈ WS := ws_t 1049 (by decide +kernel) (by decide +kernel)
set_option maxRecDepth 20000 in
theorem ml_M_141 : Cond.methodLink "FirstTreesModel" 141 y_M_push ∈ WS := ws_t 1053 (by decide +kernel) (by decide +kernel)
set_option maxRecDepth 20000 in
theorem ml_M_145 : Cond.methodLink "FirstTreesModel" 145 y_M_before ∈ WS := ws_t 1057 (by decide +kernel) (by decide +kernel)
set_option maxRecDepth 20000 in
theorem ml_L_74 : Cond.methodLink "FirstTreesLaw" 74 y_M_rule ∈ WS := ws_t 1061 (by decide +kernel) (by decide +kernel)
set_option maxRecDepth 20000 in
theorem ml_L_81 : Cond.methodLink "FirstTreesLaw" 81 y_M_alternative ∈ WS := ws_t 1065 (by decide +kernel) (by decide +kernel)
set_option maxRecDepth 20000 in
theorem ml_M_168 : Cond.methodLink "FirstTreesModel" 168 y_M_isThere ∈ WS := ws_t 1069 (by decide +kernel) (by decide +kernel)
set_option maxRecDepth 20000 in
theorem ml_L_85 : Cond.methodLink "FirstTreesLaw" 85 y_M_symbol ∈ WS := ws_t 1073 (by decide +kernel) (by decide +kernel)
set_option maxRecDepth 20000 in
theorem ml_L_89 : Cond.methodLink "FirstTreesLaw" 89 y_M_clear ∈ WS := ws_t 1077 (by decide +kernel) (by decide +kernel)
set_option maxRecDepth 20000 in
theorem ml_L_93 : Cond.methodLink "FirstTreesLaw" 93 y_M_fault ∈ WS := ws_t 1081 (by decide +kernel) (by decide +kernel)
set_option maxRecDepth 20000 in
theorem ml_L_97 : Cond.methodLink "FirstTreesLaw" 97 y_M_faulty ∈ WS := ws_t 1085 (by decide +kernel) (by decide +kernel)
set_option maxRecDepth 20000 in
theorem ml_L_100 : Cond.methodLink "FirstTreesLaw" 100 y_M_token ∈ WS := ws_t 1089 (by decide +kernel) (by decide +kernel)
set_option maxRecDepth 20000 in
theorem ml_L_104 : Cond.methodLink "FirstTreesLaw" 104 y_M_keep ∈ WS := ws_t 1093 (by decide +kernel) (by decide +kernel)
set_option maxRecDepth 20000 in
theorem ml_L_111 : Cond.methodLink "FirstTreesLaw" 111 y_M_nodes ∈ WS := ws_t 1097 (by decide +kernel) (by decide +kernel)
set_option maxRecDepth 20000 in
theorem ml_L_114 : Cond.methodLink "FirstTreesLaw" 114 y_M_node ∈ WS := ws_t 1101 (by decide +kernel) (by decide +kernel)
set_option maxRecDepth 20000 in
theorem ml_L_117 : Cond.methodLink "FirstTreesLaw" 117 y_M_reach ∈ WS := ws_t 1105 (by decide +kernel) (by decide +kernel)
set_option maxRecDepth 20000 in
theorem ml_L_120 : Cond.methodLink "FirstTreesLaw" 120 y_M_expected ∈ WS := ws_t 1109 (by decide +kernel) (by decide +kernel)
set_option maxRecDepth 20000 in
theorem ml_M_175 : Cond.methodLink "FirstTreesModel" 175 y_M_findNexts ∈ WS := ws_t 1113 (by decide +kernel) (by decide +kernel)
set_option maxRecDepth 20000 in
theorem ml_M_171 : Cond.methodLink "FirstTreesModel" 171 y_M_nextAlong ∈ WS := ws_t 1117 (by decide +kernel) (by decide +kernel)
set_option maxRecDepth 20000 in
theorem ml_L_123 : Cond.methodLink "FirstTreesLaw" 123 y_M_isNothing ∈ WS := ws_t 1122 (by decide +kernel) (by decide +kernel)
set_option maxRecDepth 20000 in
theorem ml_M_192 : Cond.methodLink "FirstTreesModel" 192 y_M_look ∈ WS := ws_t 1126 (by decide +kernel) (by decide +kernel)
set_option maxRecDepth 20000 in
theorem ml_M_189 : Cond.methodLink "FirstTreesModel" 189 y_M_findSets ∈ WS := ws_t 1130 (by decide +kernel) (by decide +kernel)
set_option maxRecDepth 20000 in
theorem ml_M_181 : Cond.methodLink "FirstTreesModel" 181 y_M_firstOf ∈ WS := ws_t 1134 (by decide +kernel) (by decide +kernel)
set_option maxRecDepth 20000 in
theorem ml_M_185 : Cond.methodLink "FirstTreesModel" 185 y_M_followAlong ∈ WS := ws_t 1138 (by decide +kernel) (by decide +kernel)
set_option maxRecDepth 20000 in
theorem ml_L_126 : Cond.methodLink "FirstTreesLaw" 126 y_M_first ∈ WS := ws_t 1142 (by decide +kernel) (by decide +kernel)
set_option maxRecDepth 20000 in
theorem ml_L_129 : Cond.methodLink "FirstTreesLaw" 129 y_M_following ∈ WS := ws_t 1146 (by decide +kernel) (by decide +kernel)
set_option maxRecDepth 20000 in
theorem ml_L_132 : Cond.methodLink "FirstTreesLaw" 132 y_M_lets ∈ WS := ws_t 1150 (by decide +kernel) (by decide +kernel)
set_option maxRecDepth 20000 in
theorem ml_L_135 : Cond.methodLink "FirstTreesLaw" 135 y_M_count ∈ WS := ws_t 1154 (by decide +kernel) (by decide +kernel)
set_option maxRecDepth 20000 in
theorem mn_F_11 : Cond.methodLinkNest "FirstTrees" 11 y_G_init "FirstTrees" ∈ NW := List.mem_of_getElem? (i := 0) rfl
set_option maxRecDepth 20000 in
theorem mn_F_27 : Cond.methodLinkNest "FirstTrees" 27 y_I_init "FirstTrees" ∈ NW := List.mem_of_getElem? (i := 1) rfl
set_option maxRecDepth 20000 in
theorem mn_F_61 : Cond.methodLinkNest "FirstTrees" 61 y_T_init "FirstTrees" ∈ NW := List.mem_of_getElem? (i := 2) rfl
set_option maxRecDepth 20000 in
theorem mn_S_61 : Cond.methodLinkNest "FirstTrees$Study" 61 y_F_has "FirstTrees" ∈ NW := List.mem_of_getElem? (i := 3) rfl
set_option maxRecDepth 20000 in
theorem mn_C_70 : Cond.methodLinkNest "FirstTrees$Chart" 70 y_F_has "FirstTrees" ∈ NW := List.mem_of_getElem? (i := 14) rfl
set_option maxRecDepth 20000 in
theorem mn_K_152 : Cond.methodLinkNest "FirstTrees$Walk" 152 y_P_init "FirstTrees" ∈ NW := List.mem_of_getElem? (i := 15) rfl
set_option maxRecDepth 20000 in
theorem mn_K_139 : Cond.methodLinkNest "FirstTrees$Walk" 139 y_F_has "FirstTrees" ∈ NW := List.mem_of_getElem? (i := 19) rfl
abbrev rm_F_init : Room := { frames := 2, cells := 0, slots := 0, locals := 44 }
abbrev rm_F_rule : Room := { frames := 6, cells := 0, slots := 0, locals := 89 }
abbrev rm_F_alternative : Room := { frames := 7, cells := 0, slots := 0, locals := 110 }
abbrev rm_F_symbol : Room := { frames := 7, cells := 0, slots := 0, locals := 110 }
abbrev rm_F_clear : Room := { frames := 1, cells := 0, slots := 0, locals := 21 }
abbrev rm_F_fault : Room := { frames := 5, cells := 0, slots := 0, locals := 116 }
abbrev rm_F_faulty : Room := { frames := 5, cells := 0, slots := 0, locals := 116 }
abbrev rm_F_token : Room := { frames := 6, cells := 0, slots := 0, locals := 89 }
abbrev rm_F_keep : Room := { frames := 6, cells := 0, slots := 0, locals := 89 }
abbrev rm_F_parse : Room := { frames := 7, cells := 0, slots := 0, locals := 155 }
abbrev rm_F_nodes : Room := { frames := 1, cells := 0, slots := 0, locals := 20 }
abbrev rm_F_node : Room := { frames := 6, cells := 0, slots := 0, locals := 89 }
abbrev rm_F_reach : Room := { frames := 7, cells := 0, slots := 0, locals := 136 }
abbrev rm_F_expected : Room := { frames := 7, cells := 0, slots := 0, locals := 136 }
abbrev rm_F_isNothing : Room := { frames := 7, cells := 0, slots := 0, locals := 136 }
abbrev rm_F_first : Room := { frames := 7, cells := 0, slots := 0, locals := 136 }
abbrev rm_F_following : Room := { frames := 7, cells := 0, slots := 0, locals := 136 }
abbrev rm_F_lets : Room := { frames := 7, cells := 0, slots := 0, locals := 136 }
abbrev rm_F_count : Room := { frames := 6, cells := 0, slots := 0, locals := 89 }
abbrev rm_F_mustBeRule : Room := { frames := 6, cells := 0, slots := 0, locals := 89 }
abbrev rm_F_mustBeRight : Room := { frames := 6, cells := 0, slots := 0, locals := 116 }
abbrev rm_F_has : Room := { frames := 0, cells := 0, slots := 0, locals := 0 }
abbrev rm_M_init : Room := { frames := 1, cells := 0, slots := 0, locals := 20 }
abbrev rm_M_thrown : Room := { frames := 0, cells := 0, slots := 0, locals := 0 }
abbrev rm_M_symbolAt : Room := { frames := 0, cells := 0, slots := 0, locals := 0 }
abbrev rm_M_sizeOf : Room := { frames := 0, cells := 0, slots := 0, locals := 0 }
abbrev rm_M_isRule : Room := { frames := 0, cells := 0, slots := 0, locals := 0 }
abbrev rm_M_rowIsNothing : Room := { frames := 1, cells := 0, slots := 0, locals := 23 }
abbrev rm_M_findNothing : Room := { frames := 2, cells := 0, slots := 0, locals := 49 }
abbrev rm_M_findLeft : Room := { frames := 1, cells := 0, slots := 0, locals := 23 }
abbrev rm_M_faultOf : Room := { frames := 3, cells := 0, slots := 0, locals := 72 }
abbrev rm_M_makeOrder : Room := { frames := 0, cells := 0, slots := 0, locals := 0 }
abbrev rm_M_step : Room := { frames := 1, cells := 0, slots := 0, locals := 20 }
abbrev rm_M_alongAlternative : Room := { frames := 2, cells := 0, slots := 0, locals := 47 }
abbrev rm_M_findPlaces : Room := { frames := 3, cells := 0, slots := 0, locals := 74 }
abbrev rm_M_capped : Room := { frames := 0, cells := 0, slots := 0, locals := 0 }
abbrev rm_M_findWays : Room := { frames := 3, cells := 0, slots := 0, locals := 74 }
abbrev rm_M_waysAlong : Room := { frames := 1, cells := 0, slots := 0, locals := 23 }
abbrev rm_M_before : Room := { frames := 1, cells := 0, slots := 0, locals := 20 }
abbrev rm_M_reachOf : Room := { frames := 3, cells := 0, slots := 0, locals := 74 }
abbrev rm_M_push : Room := { frames := 0, cells := 0, slots := 0, locals := 0 }
abbrev rm_M_makeNode : Room := { frames := 4, cells := 0, slots := 0, locals := 100 }
abbrev rm_M_makeTree : Room := { frames := 5, cells := 0, slots := 0, locals := 132 }
abbrev rm_M_parse : Room := { frames := 6, cells := 0, slots := 0, locals := 154 }
abbrev rm_M_rule : Room := { frames := 0, cells := 0, slots := 0, locals := 0 }
abbrev rm_M_isThere : Room := { frames := 0, cells := 0, slots := 0, locals := 0 }
abbrev rm_M_alternative : Room := { frames := 1, cells := 0, slots := 0, locals := 21 }
abbrev rm_M_symbol : Room := { frames := 1, cells := 0, slots := 0, locals := 22 }
abbrev rm_M_clear : Room := { frames := 0, cells := 0, slots := 0, locals := 0 }
abbrev rm_M_fault : Room := { frames := 4, cells := 0, slots := 0, locals := 95 }
abbrev rm_M_faulty : Room := { frames := 4, cells := 0, slots := 0, locals := 95 }
abbrev rm_M_token : Room := { frames := 0, cells := 0, slots := 0, locals := 0 }
abbrev rm_M_keep : Room := { frames := 0, cells := 0, slots := 0, locals := 0 }
abbrev rm_M_nodes : Room := { frames := 0, cells := 0, slots := 0, locals := 0 }
abbrev rm_M_node : Room := { frames := 0, cells := 0, slots := 0, locals := 0 }
abbrev rm_M_reach : Room := { frames := 4, cells := 0, slots := 0, locals := 101 }
abbrev rm_M_findNexts : Room := { frames := 3, cells := 0, slots := 0, locals := 78 }
abbrev rm_M_nextAlong : Room := { frames := 2, cells := 0, slots := 0, locals := 47 }
abbrev rm_M_expected : Room := { frames := 4, cells := 0, slots := 0, locals := 105 }
abbrev rm_M_firstOf : Room := { frames := 1, cells := 0, slots := 0, locals := 23 }
abbrev rm_M_findSets : Room := { frames := 3, cells := 0, slots := 0, locals := 75 }
abbrev rm_M_followAlong : Room := { frames := 2, cells := 0, slots := 0, locals := 51 }
abbrev rm_M_look : Room := { frames := 4, cells := 0, slots := 0, locals := 98 }
abbrev rm_M_isNothing : Room := { frames := 5, cells := 0, slots := 0, locals := 119 }
abbrev rm_M_first : Room := { frames := 5, cells := 0, slots := 0, locals := 119 }
abbrev rm_M_following : Room := { frames := 5, cells := 0, slots := 0, locals := 119 }
abbrev rm_M_lets : Room := { frames := 5, cells := 0, slots := 0, locals := 119 }
abbrev rm_M_count : Room := { frames := 0, cells := 0, slots := 0, locals := 0 }
abbrev rm_C_init : Room := { frames := 1, cells := 0, slots := 0, locals := 20 }
abbrev rm_C_fill : Room := { frames := 4, cells := 0, slots := 0, locals := 104 }
abbrev rm_C_hasTree : Room := { frames := 1, cells := 0, slots := 0, locals := 22 }
abbrev rm_C_farOfAll : Room := { frames := 1, cells := 0, slots := 0, locals := 21 }
abbrev rm_C_soonOfAll : Room := { frames := 1, cells := 0, slots := 0, locals := 21 }
abbrev rm_C_end : Room := { frames := 0, cells := 0, slots := 0, locals := 0 }
abbrev rm_C_at : Room := { frames := 0, cells := 0, slots := 0, locals := 0 }
abbrev rm_C_rowFits : Room := { frames := 0, cells := 0, slots := 0, locals := 0 }
abbrev rm_C_rowFar : Room := { frames := 0, cells := 0, slots := 0, locals := 0 }
abbrev rm_C_ruleFits : Room := { frames := 0, cells := 0, slots := 0, locals := 0 }
abbrev rm_C_ruleFar : Room := { frames := 0, cells := 0, slots := 0, locals := 0 }
abbrev rm_C_findPlaces : Room := { frames := 1, cells := 0, slots := 0, locals := 21 }
abbrev rm_C_fillRule : Room := { frames := 3, cells := 0, slots := 0, locals := 75 }
abbrev rm_C_readRow : Room := { frames := 2, cells := 0, slots := 0, locals := 51 }
abbrev rm_C_readToken : Room := { frames := 1, cells := 0, slots := 0, locals := 22 }
abbrev rm_C_readRule : Room := { frames := 1, cells := 0, slots := 0, locals := 25 }
abbrev rm_G_init : Room := { frames := 1, cells := 0, slots := 0, locals := 20 }
abbrev rm_G_isToken : Room := { frames := 0, cells := 0, slots := 0, locals := 0 }
abbrev rm_G_ruleOf : Room := { frames := 0, cells := 0, slots := 0, locals := 0 }
abbrev rm_G_row : Room := { frames := 0, cells := 0, slots := 0, locals := 0 }
abbrev rm_G_addRule : Room := { frames := 0, cells := 0, slots := 0, locals := 0 }
abbrev rm_G_addAlternative : Room := { frames := 2, cells := 0, slots := 0, locals := 42 }
abbrev rm_G_addSymbol : Room := { frames := 2, cells := 0, slots := 0, locals := 42 }
abbrev rm_G_loseRules : Room := { frames := 0, cells := 0, slots := 0, locals := 0 }
abbrev rm_G_rules : Room := { frames := 0, cells := 0, slots := 0, locals := 0 }
abbrev rm_G_alternatives : Room := { frames := 0, cells := 0, slots := 0, locals := 0 }
abbrev rm_G_latestRow : Room := { frames := 1, cells := 0, slots := 0, locals := 21 }
abbrev rm_G_length : Room := { frames := 0, cells := 0, slots := 0, locals := 0 }
abbrev rm_G_symbolAt : Room := { frames := 0, cells := 0, slots := 0, locals := 0 }
abbrev rm_G_rulesIn : Room := { frames := 1, cells := 0, slots := 0, locals := 22 }
abbrev rm_I_init : Room := { frames := 1, cells := 0, slots := 0, locals := 20 }
abbrev rm_I_add : Room := { frames := 0, cells := 0, slots := 0, locals := 0 }
abbrev rm_I_cut : Room := { frames := 0, cells := 0, slots := 0, locals := 0 }
abbrev rm_I_size : Room := { frames := 0, cells := 0, slots := 0, locals := 0 }
abbrev rm_I_tokenAt : Room := { frames := 0, cells := 0, slots := 0, locals := 0 }
abbrev rm_P_init : Room := { frames := 1, cells := 0, slots := 0, locals := 20 }
abbrev rm_S_init : Room := { frames := 1, cells := 0, slots := 0, locals := 20 }
abbrev rm_S_outdate : Room := { frames := 0, cells := 0, slots := 0, locals := 0 }
abbrev rm_S_bringUpToDate : Room := { frames := 4, cells := 0, slots := 0, locals := 96 }
abbrev rm_S_faultKind : Room := { frames := 0, cells := 0, slots := 0, locals := 0 }
abbrev rm_S_faultyRule : Room := { frames := 0, cells := 0, slots := 0, locals := 0 }
abbrev rm_S_inOrder : Room := { frames := 0, cells := 0, slots := 0, locals := 0 }
abbrev rm_S_ruleIsNothing : Room := { frames := 1, cells := 0, slots := 0, locals := 22 }
abbrev rm_S_ruleFirst : Room := { frames := 0, cells := 0, slots := 0, locals := 0 }
abbrev rm_S_ruleFollowing : Room := { frames := 0, cells := 0, slots := 0, locals := 0 }
abbrev rm_S_letIn : Room := { frames := 3, cells := 0, slots := 0, locals := 68 }
abbrev rm_S_findNothing : Room := { frames := 3, cells := 0, slots := 0, locals := 65 }
abbrev rm_S_rowIsNothing : Room := { frames := 2, cells := 0, slots := 0, locals := 43 }
abbrev rm_S_symbolIsNothing : Room := { frames := 1, cells := 0, slots := 0, locals := 22 }
abbrev rm_S_findLeft : Room := { frames := 3, cells := 0, slots := 0, locals := 67 }
abbrev rm_S_rulesAtLeft : Room := { frames := 2, cells := 0, slots := 0, locals := 43 }
abbrev rm_S_findFault : Room := { frames := 3, cells := 0, slots := 0, locals := 68 }
abbrev rm_S_hasFault : Room := { frames := 2, cells := 0, slots := 0, locals := 46 }
abbrev rm_S_hasSymbolNotThere : Room := { frames := 1, cells := 0, slots := 0, locals := 22 }
abbrev rm_S_findOrder : Room := { frames := 1, cells := 0, slots := 0, locals := 20 }
abbrev rm_S_findFirsts : Room := { frames := 3, cells := 0, slots := 0, locals := 68 }
abbrev rm_S_rowFirst : Room := { frames := 2, cells := 0, slots := 0, locals := 43 }
abbrev rm_S_symbolFirst : Room := { frames := 1, cells := 0, slots := 0, locals := 20 }
abbrev rm_S_findFollowings : Room := { frames := 3, cells := 0, slots := 0, locals := 72 }
abbrev rm_S_widenFollowings : Room := { frames := 2, cells := 0, slots := 0, locals := 43 }
abbrev rm_T_init : Room := { frames := 1, cells := 0, slots := 0, locals := 20 }
abbrev rm_T_empty : Room := { frames := 0, cells := 0, slots := 0, locals := 0 }
abbrev rm_T_size : Room := { frames := 0, cells := 0, slots := 0, locals := 0 }
abbrev rm_T_fact : Room := { frames := 0, cells := 0, slots := 0, locals := 0 }
abbrev rm_T_add : Room := { frames := 0, cells := 0, slots := 0, locals := 0 }
abbrev rm_T_choose : Room := { frames := 0, cells := 0, slots := 0, locals := 0 }
abbrev rm_T_findEnds : Room := { frames := 0, cells := 0, slots := 0, locals := 0 }
abbrev rm_K_init : Room := { frames := 1, cells := 0, slots := 0, locals := 20 }
abbrev rm_K_derive : Room := { frames := 6, cells := 0, slots := 0, locals := 132 }
abbrev rm_K_replace : Room := { frames := 5, cells := 0, slots := 0, locals := 105 }
abbrev rm_K_firstFitting : Room := { frames := 3, cells := 0, slots := 0, locals := 75 }
abbrev rm_K_look : Room := { frames := 3, cells := 0, slots := 0, locals := 75 }
abbrev rm_K_reachOfRow : Room := { frames := 2, cells := 0, slots := 0, locals := 52 }
abbrev rm_K_farthest : Room := { frames := 1, cells := 0, slots := 0, locals := 25 }
abbrev rm_K_layBottom : Room := { frames := 3, cells := 0, slots := 0, locals := 60 }
abbrev rm_K_layRow : Room := { frames := 4, cells := 0, slots := 0, locals := 82 }
abbrev rm_K_lay : Room := { frames := 3, cells := 0, slots := 0, locals := 60 }
abbrev rm_K_makeRoom : Room := { frames := 2, cells := 0, slots := 0, locals := 40 }
abbrev rm_K_findReaches : Room := { frames := 2, cells := 0, slots := 0, locals := 52 }
abbrev rm_K_reachOfToken : Room := { frames := 1, cells := 0, slots := 0, locals := 21 }
abbrev rm_Y_init : Room := { frames := 1, cells := 0, slots := 0, locals := 20 }
abbrev rm_Y_ofWholeInput : Room := { frames := 5, cells := 0, slots := 0, locals := 125 }
abbrev rm_Y_at : Room := { frames := 0, cells := 0, slots := 0, locals := 0 }
abbrev rm_Y_fillRule : Room := { frames := 4, cells := 0, slots := 0, locals := 101 }
abbrev rm_Y_addRow : Room := { frames := 1, cells := 0, slots := 0, locals := 25 }
abbrev rm_Y_readRow : Room := { frames := 3, cells := 0, slots := 0, locals := 77 }
abbrev rm_Y_readToken : Room := { frames := 1, cells := 0, slots := 0, locals := 21 }
abbrev rm_Y_readRule : Room := { frames := 2, cells := 0, slots := 0, locals := 52 }
abbrev rm_Y_spread : Room := { frames := 1, cells := 0, slots := 0, locals := 25 }
abbrev rm_L_rule : Room := { frames := 7, cells := 0, slots := 0, locals := 109 }
abbrev rm_L_alternative : Room := { frames := 8, cells := 0, slots := 0, locals := 131 }
abbrev rm_L_symbol : Room := { frames := 8, cells := 0, slots := 0, locals := 132 }
abbrev rm_L_token : Room := { frames := 7, cells := 0, slots := 0, locals := 110 }
abbrev rm_L_keep : Room := { frames := 7, cells := 0, slots := 0, locals := 110 }
abbrev rm_L_parse : Room := { frames := 8, cells := 0, slots := 0, locals := 176 }
abbrev rm_L_node : Room := { frames := 7, cells := 0, slots := 0, locals := 111 }
abbrev rm_L_reach : Room := { frames := 8, cells := 0, slots := 0, locals := 156 }
abbrev rm_L_expected : Room := { frames := 8, cells := 0, slots := 0, locals := 157 }
abbrev rm_L_isNothing : Room := { frames := 8, cells := 0, slots := 0, locals := 157 }
abbrev rm_L_first : Room := { frames := 8, cells := 0, slots := 0, locals := 157 }
abbrev rm_L_following : Room := { frames := 8, cells := 0, slots := 0, locals := 157 }
abbrev rm_L_lets : Room := { frames := 8, cells := 0, slots := 0, locals := 158 }
abbrev rm_L_count : Room := { frames := 7, cells := 0, slots := 0, locals := 110 }
abbrev rm_L_law : Room := { frames := 9, cells := 0, slots := 0, locals := 198 }
