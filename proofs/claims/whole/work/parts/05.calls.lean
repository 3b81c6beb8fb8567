/-! facts of callees and links of call sites, by program -/
set_option maxRecDepth 20000 in
theorem cf_F_init : CF y_F_init c_F_init 1 none 0 := ⟨ws_1 24 rfl rfl, ws_1 1 rfl rfl, ⟨by decide +kernel, by decide +kernel⟩, by decide +kernel⟩
set_option maxRecDepth 20000 in
theorem ci_F_init : Cond.instanceMethod y_F_init ∈ WS := ws_1 23 rfl rfl
set_option maxRecDepth 20000 in
theorem cf_F_rule : CF y_F_rule c_F_rule 1 (some .int) 0 := ⟨ws_2 135 rfl rfl, ws_1 1 rfl rfl, ⟨by decide +kernel, by decide +kernel⟩, by decide +kernel⟩
set_option maxRecDepth 20000 in
theorem ci_F_rule : Cond.instanceMethod y_F_rule ∈ WS ∧ Cond.selects y_F_rule.cls y_F_rule y_F_rule ∈ WS := ⟨ws_2 133 rfl rfl, ws_2 134 rfl rfl⟩
set_option maxRecDepth 20000 in
theorem cf_F_alternative : CF y_F_alternative c_F_alternative 2 (some .int) 1 := ⟨ws_2 217 rfl rfl, ws_1 1 rfl rfl, ⟨by decide +kernel, by decide +kernel⟩, by decide +kernel⟩
set_option maxRecDepth 20000 in
theorem ci_F_alternative : Cond.instanceMethod y_F_alternative ∈ WS ∧ Cond.selects y_F_alternative.cls y_F_alternative y_F_alternative ∈ WS := ⟨ws_2 215 rfl rfl, ws_2 216 rfl rfl⟩
set_option maxRecDepth 20000 in
theorem cf_F_symbol : CF y_F_symbol c_F_symbol 3 (some .int) 2 := ⟨ws_3 17 rfl rfl, ws_1 1 rfl rfl, ⟨by decide +kernel, by decide +kernel⟩, by decide +kernel⟩
set_option maxRecDepth 20000 in
theorem ci_F_symbol : Cond.instanceMethod y_F_symbol ∈ WS ∧ Cond.selects y_F_symbol.cls y_F_symbol y_F_symbol ∈ WS := ⟨ws_3 15 rfl rfl, ws_3 16 rfl rfl⟩
set_option maxRecDepth 20000 in
theorem cf_F_clear : CF y_F_clear c_F_clear 1 (some .int) 0 := ⟨ws_1 239 rfl rfl, ws_1 1 rfl rfl, ⟨by decide +kernel, by decide +kernel⟩, by decide +kernel⟩
set_option maxRecDepth 20000 in
theorem ci_F_clear : Cond.instanceMethod y_F_clear ∈ WS ∧ Cond.selects y_F_clear.cls y_F_clear y_F_clear ∈ WS := ⟨ws_1 237 rfl rfl, ws_1 238 rfl rfl⟩
set_option maxRecDepth 20000 in
theorem cf_F_fault : CF y_F_fault c_F_fault 1 (some .int) 0 := ⟨ws_2 11 rfl rfl, ws_1 1 rfl rfl, ⟨by decide +kernel, by decide +kernel⟩, by decide +kernel⟩
set_option maxRecDepth 20000 in
theorem ci_F_fault : Cond.instanceMethod y_F_fault ∈ WS ∧ Cond.selects y_F_fault.cls y_F_fault y_F_fault ∈ WS := ⟨ws_2 9 rfl rfl, ws_2 10 rfl rfl⟩
set_option maxRecDepth 20000 in
theorem cf_F_faulty : CF y_F_faulty c_F_faulty 1 (some .int) 0 := ⟨ws_2 115 rfl rfl, ws_1 1 rfl rfl, ⟨by decide +kernel, by decide +kernel⟩, by decide +kernel⟩
set_option maxRecDepth 20000 in
theorem ci_F_faulty : Cond.instanceMethod y_F_faulty ∈ WS ∧ Cond.selects y_F_faulty.cls y_F_faulty y_F_faulty ∈ WS := ⟨ws_2 113 rfl rfl, ws_2 114 rfl rfl⟩
set_option maxRecDepth 20000 in
theorem cf_F_token : CF y_F_token c_F_token 2 (some .int) 1 := ⟨ws_3 63 rfl rfl, ws_1 1 rfl rfl, ⟨by decide +kernel, by decide +kernel⟩, by decide +kernel⟩
set_option maxRecDepth 20000 in
theorem ci_F_token : Cond.instanceMethod y_F_token ∈ WS ∧ Cond.selects y_F_token.cls y_F_token y_F_token ∈ WS := ⟨ws_3 61 rfl rfl, ws_3 62 rfl rfl⟩
set_option maxRecDepth 20000 in
theorem cf_F_keep : CF y_F_keep c_F_keep 2 none 1 := ⟨ws_3 80 rfl rfl, ws_1 1 rfl rfl, ⟨by decide +kernel, by decide +kernel⟩, by decide +kernel⟩
set_option maxRecDepth 20000 in
theorem ci_F_keep : Cond.instanceMethod y_F_keep ∈ WS ∧ Cond.selects y_F_keep.cls y_F_keep y_F_keep ∈ WS := ⟨ws_3 78 rfl rfl, ws_3 79 rfl rfl⟩
set_option maxRecDepth 20000 in
theorem cf_F_parse : CF y_F_parse c_F_parse 2 (some .int) 0 := ⟨ws_3 92 rfl rfl, ws_1 1 rfl rfl, ⟨by decide +kernel, by decide +kernel⟩, by decide +kernel⟩
set_option maxRecDepth 20000 in
theorem ci_F_parse : Cond.instanceMethod y_F_parse ∈ WS ∧ Cond.selects y_F_parse.cls y_F_parse y_F_parse ∈ WS := ⟨ws_3 90 rfl rfl, ws_3 91 rfl rfl⟩
set_option maxRecDepth 20000 in
theorem cf_F_nodes : CF y_F_nodes c_F_nodes 1 (some .int) 0 := ⟨ws_2 123 rfl rfl, ws_1 1 rfl rfl, ⟨by decide +kernel, by decide +kernel⟩, by decide +kernel⟩
set_option maxRecDepth 20000 in
theorem ci_F_nodes : Cond.instanceMethod y_F_nodes ∈ WS ∧ Cond.selects y_F_nodes.cls y_F_nodes y_F_nodes ∈ WS := ⟨ws_2 121 rfl rfl, ws_2 122 rfl rfl⟩
set_option maxRecDepth 20000 in
theorem cf_F_node : CF y_F_node c_F_node 3 (some .int) 2 := ⟨ws_4 82 rfl rfl, ws_1 1 rfl rfl, ⟨by decide +kernel, by decide +kernel⟩, by decide +kernel⟩
set_option maxRecDepth 20000 in
theorem ci_F_node : Cond.instanceMethod y_F_node ∈ WS ∧ Cond.selects y_F_node.cls y_F_node y_F_node ∈ WS := ⟨ws_4 80 rfl rfl, ws_4 81 rfl rfl⟩
set_option maxRecDepth 20000 in
theorem cf_F_reach : CF y_F_reach c_F_reach 1 (some .int) 0 := ⟨ws_4 95 rfl rfl, ws_1 1 rfl rfl, ⟨by decide +kernel, by decide +kernel⟩, by decide +kernel⟩
set_option maxRecDepth 20000 in
theorem ci_F_reach : Cond.instanceMethod y_F_reach ∈ WS ∧ Cond.selects y_F_reach.cls y_F_reach y_F_reach ∈ WS := ⟨ws_4 93 rfl rfl, ws_4 94 rfl rfl⟩
set_option maxRecDepth 20000 in
theorem cf_F_expected : CF y_F_expected c_F_expected 2 (some .long) 1 := ⟨ws_4 106 rfl rfl, ws_1 1 rfl rfl, ⟨by decide +kernel, by decide +kernel⟩, by decide +kernel⟩
set_option maxRecDepth 20000 in
theorem ci_F_expected : Cond.instanceMethod y_F_expected ∈ WS ∧ Cond.selects y_F_expected.cls y_F_expected y_F_expected ∈ WS := ⟨ws_4 104 rfl rfl, ws_4 105 rfl rfl⟩
set_option maxRecDepth 20000 in
theorem cf_F_isNothing : CF y_F_isNothing c_F_isNothing 2 (some .boolean) 1 := ⟨ws_4 119 rfl rfl, ws_1 1 rfl rfl, ⟨by decide +kernel, by decide +kernel⟩, by decide +kernel⟩
set_option maxRecDepth 20000 in
theorem ci_F_isNothing : Cond.instanceMethod y_F_isNothing ∈ WS ∧ Cond.selects y_F_isNothing.cls y_F_isNothing y_F_isNothing ∈ WS := ⟨ws_4 117 rfl rfl, ws_4 118 rfl rfl⟩
set_option maxRecDepth 20000 in
theorem cf_F_first : CF y_F_first c_F_first 2 (some .long) 1 := ⟨ws_4 130 rfl rfl, ws_1 1 rfl rfl, ⟨by decide +kernel, by decide +kernel⟩, by decide +kernel⟩
set_option maxRecDepth 20000 in
theorem ci_F_first : Cond.instanceMethod y_F_first ∈ WS ∧ Cond.selects y_F_first.cls y_F_first y_F_first ∈ WS := ⟨ws_4 128 rfl rfl, ws_4 129 rfl rfl⟩
set_option maxRecDepth 20000 in
theorem cf_F_following : CF y_F_following c_F_following 2 (some .long) 1 := ⟨ws_4 141 rfl rfl, ws_1 1 rfl rfl, ⟨by decide +kernel, by decide +kernel⟩, by decide +kernel⟩
set_option maxRecDepth 20000 in
theorem ci_F_following : Cond.instanceMethod y_F_following ∈ WS ∧ Cond.selects y_F_following.cls y_F_following y_F_following ∈ WS := ⟨ws_4 139 rfl rfl, ws_4 140 rfl rfl⟩
set_option maxRecDepth 20000 in
theorem cf_F_lets : CF y_F_lets c_F_lets 3 (some .int) 2 := ⟨ws_4 152 rfl rfl, ws_1 1 rfl rfl, ⟨by decide +kernel, by decide +kernel⟩, by decide +kernel⟩
set_option maxRecDepth 20000 in
theorem ci_F_lets : Cond.instanceMethod y_F_lets ∈ WS ∧ Cond.selects y_F_lets.cls y_F_lets y_F_lets ∈ WS := ⟨ws_4 150 rfl rfl, ws_4 151 rfl rfl⟩
set_option maxRecDepth 20000 in
theorem cf_F_count : CF y_F_count c_F_count 2 (some .int) 1 := ⟨ws_4 163 rfl rfl, ws_1 1 rfl rfl, ⟨by decide +kernel, by decide +kernel⟩, by decide +kernel⟩
set_option maxRecDepth 20000 in
theorem ci_F_count : Cond.instanceMethod y_F_count ∈ WS ∧ Cond.selects y_F_count.cls y_F_count y_F_count ∈ WS := ⟨ws_4 161 rfl rfl, ws_4 162 rfl rfl⟩
set_option maxRecDepth 20000 in
theorem cf_F_mustBeRule : CF y_F_mustBeRule c_F_mustBeRule 2 none 1 := ⟨ws_2 221 rfl rfl, ws_1 1 rfl rfl, ⟨by decide +kernel, by decide +kernel⟩, by decide +kernel⟩
set_option maxRecDepth 20000 in
theorem ci_F_mustBeRule : Cond.instanceMethod y_F_mustBeRule ∈ WS ∧ Cond.selects y_F_mustBeRule.cls y_F_mustBeRule y_F_mustBeRule ∈ WS := ⟨ws_2 220 rfl rfl, ws_p 15 rfl⟩
set_option maxRecDepth 20000 in
theorem cf_F_mustBeRight : CF y_F_mustBeRight c_F_mustBeRight 1 none 0 := ⟨ws_3 96 rfl rfl, ws_1 1 rfl rfl, ⟨by decide +kernel, by decide +kernel⟩, by decide +kernel⟩
set_option maxRecDepth 20000 in
theorem ci_F_mustBeRight : Cond.instanceMethod y_F_mustBeRight ∈ WS ∧ Cond.selects y_F_mustBeRight.cls y_F_mustBeRight y_F_mustBeRight ∈ WS := ⟨ws_3 95 rfl rfl, ws_p 16 rfl⟩
set_option maxRecDepth 20000 in
theorem cf_F_has : CF y_F_has c_F_has 3 (some .boolean) 2 := ⟨ws_2 55 rfl rfl, ws_1 1 rfl rfl, ⟨by decide +kernel, by decide +kernel⟩, by decide +kernel⟩
set_option maxRecDepth 20000 in
theorem ci_F_has : Cond.static y_F_has ∈ WS := ws_2 54 rfl rfl
set_option maxRecDepth 20000 in
theorem cf_M_init : CF y_M_init c_M_init 1 none 0 := ⟨ws_4 169 rfl rfl, ws_1 9 rfl rfl, ⟨by decide +kernel, by decide +kernel⟩, by decide +kernel⟩
set_option maxRecDepth 20000 in
theorem ci_M_init : Cond.instanceMethod y_M_init ∈ WS := ws_4 168 rfl rfl
set_option maxRecDepth 20000 in
theorem cf_M_thrown : CF y_M_thrown c_M_thrown 1 (some .int) 0 := ⟨ws_5 21 rfl rfl, ws_1 9 rfl rfl, ⟨by decide +kernel, by decide +kernel⟩, by decide +kernel⟩
set_option maxRecDepth 20000 in
theorem ci_M_thrown : Cond.instanceMethod y_M_thrown ∈ WS ∧ Cond.selects y_M_thrown.cls y_M_thrown y_M_thrown ∈ WS := ⟨ws_5 19 rfl rfl, ws_5 20 rfl rfl⟩
set_option maxRecDepth 20000 in
theorem cf_M_symbolAt : CF y_M_symbolAt c_M_symbolAt 4 (some .int) 3 := ⟨ws_5 37 rfl rfl, ws_1 9 rfl rfl, ⟨by decide +kernel, by decide +kernel⟩, by decide +kernel⟩
set_option maxRecDepth 20000 in
theorem ci_M_symbolAt : Cond.instanceMethod y_M_symbolAt ∈ WS ∧ Cond.selects y_M_symbolAt.cls y_M_symbolAt y_M_symbolAt ∈ WS := ⟨ws_5 36 rfl rfl, ws_p 41 rfl⟩
set_option maxRecDepth 20000 in
theorem cf_M_sizeOf : CF y_M_sizeOf c_M_sizeOf 3 (some .int) 2 := ⟨ws_5 33 rfl rfl, ws_1 9 rfl rfl, ⟨by decide +kernel, by decide +kernel⟩, by decide +kernel⟩
set_option maxRecDepth 20000 in
theorem ci_M_sizeOf : Cond.instanceMethod y_M_sizeOf ∈ WS ∧ Cond.selects y_M_sizeOf.cls y_M_sizeOf y_M_sizeOf ∈ WS := ⟨ws_5 32 rfl rfl, ws_p 40 rfl⟩
set_option maxRecDepth 20000 in
theorem cf_M_isRule : CF y_M_isRule c_M_isRule 1 (some .boolean) 1 := ⟨ws_5 48 rfl rfl, ws_1 9 rfl rfl, ⟨by decide +kernel, by decide +kernel⟩, by decide +kernel⟩
set_option maxRecDepth 20000 in
theorem ci_M_isRule : Cond.static y_M_isRule ∈ WS := ws_5 47 rfl rfl
set_option maxRecDepth 20000 in
theorem cf_M_rowIsNothing : CF y_M_rowIsNothing c_M_rowIsNothing 7 (some .boolean) 3 := ⟨ws_5 45 rfl rfl, ws_1 9 rfl rfl, ⟨by decide +kernel, by decide +kernel⟩, by decide +kernel⟩
set_option maxRecDepth 20000 in
theorem ci_M_rowIsNothing : Cond.instanceMethod y_M_rowIsNothing ∈ WS ∧ Cond.selects y_M_rowIsNothing.cls y_M_rowIsNothing y_M_rowIsNothing ∈ WS := ⟨ws_5 44 rfl rfl, ws_p 43 rfl⟩
set_option maxRecDepth 20000 in
theorem cf_M_findNothing : CF y_M_findNothing c_M_findNothing 4 none 0 := ⟨ws_5 41 rfl rfl, ws_1 9 rfl rfl, ⟨by decide +kernel, by decide +kernel⟩, by decide +kernel⟩
set_option maxRecDepth 20000 in
theorem ci_M_findNothing : Cond.instanceMethod y_M_findNothing ∈ WS ∧ Cond.selects y_M_findNothing.cls y_M_findNothing y_M_findNothing ∈ WS := ⟨ws_5 40 rfl rfl, ws_p 42 rfl⟩
set_option maxRecDepth 20000 in
theorem cf_M_findLeft : CF y_M_findLeft c_M_findLeft 6 none 0 := ⟨ws_5 52 rfl rfl, ws_1 9 rfl rfl, ⟨by decide +kernel, by decide +kernel⟩, by decide +kernel⟩
set_option maxRecDepth 20000 in
theorem ci_M_findLeft : Cond.instanceMethod y_M_findLeft ∈ WS ∧ Cond.selects y_M_findLeft.cls y_M_findLeft y_M_findLeft ∈ WS := ⟨ws_5 51 rfl rfl, ws_p 44 rfl⟩
set_option maxRecDepth 20000 in
theorem cf_M_faultOf : CF y_M_faultOf c_M_faultOf 4 (some .int) 0 := ⟨ws_5 29 rfl rfl, ws_1 9 rfl rfl, ⟨by decide +kernel, by decide +kernel⟩, by decide +kernel⟩
set_option maxRecDepth 20000 in
theorem ci_M_faultOf : Cond.instanceMethod y_M_faultOf ∈ WS ∧ Cond.selects y_M_faultOf.cls y_M_faultOf y_M_faultOf ∈ WS := ⟨ws_5 28 rfl rfl, ws_p 39 rfl⟩
set_option maxRecDepth 20000 in
theorem cf_M_makeOrder : CF y_M_makeOrder c_M_makeOrder 7 none 0 := ⟨ws_5 60 rfl rfl, ws_1 9 rfl rfl, ⟨by decide +kernel, by decide +kernel⟩, by decide +kernel⟩
set_option maxRecDepth 20000 in
theorem ci_M_makeOrder : Cond.instanceMethod y_M_makeOrder ∈ WS ∧ Cond.selects y_M_makeOrder.cls y_M_makeOrder y_M_makeOrder ∈ WS := ⟨ws_5 59 rfl rfl, ws_p 46 rfl⟩
set_option maxRecDepth 20000 in
theorem cf_M_step : CF y_M_step c_M_step 8 (some .long) 2 := ⟨ws_5 68 rfl rfl, ws_1 9 rfl rfl, ⟨by decide +kernel, by decide +kernel⟩, by decide +kernel⟩
set_option maxRecDepth 20000 in
theorem ci_M_step : Cond.instanceMethod y_M_step ∈ WS ∧ Cond.selects y_M_step.cls y_M_step y_M_step ∈ WS := ⟨ws_5 67 rfl rfl, ws_p 48 rfl⟩
set_option maxRecDepth 20000 in
theorem cf_M_alongAlternative : CF y_M_alongAlternative c_M_alongAlternative 8 (some .long) 3 := ⟨ws_5 64 rfl rfl, ws_1 9 rfl rfl, ⟨by decide +kernel, by decide +kernel⟩, by decide +kernel⟩
set_option maxRecDepth 20000 in
theorem ci_M_alongAlternative : Cond.instanceMethod y_M_alongAlternative ∈ WS ∧ Cond.selects y_M_alongAlternative.cls y_M_alongAlternative y_M_alongAlternative ∈ WS := ⟨ws_5 63 rfl rfl, ws_p 47 rfl⟩
set_option maxRecDepth 20000 in
theorem cf_M_findPlaces : CF y_M_findPlaces c_M_findPlaces 8 none 0 := ⟨ws_5 56 rfl rfl, ws_1 9 rfl rfl, ⟨by decide +kernel, by decide +kernel⟩, by decide +kernel⟩
set_option maxRecDepth 20000 in
theorem ci_M_findPlaces : Cond.instanceMethod y_M_findPlaces ∈ WS ∧ Cond.selects y_M_findPlaces.cls y_M_findPlaces y_M_findPlaces ∈ WS := ⟨ws_5 55 rfl rfl, ws_p 45 rfl⟩
set_option maxRecDepth 20000 in
theorem cf_M_capped : CF y_M_capped c_M_capped 2 (some .long) 1 := ⟨ws_5 79 rfl rfl, ws_1 9 rfl rfl, ⟨by decide +kernel, by decide +kernel⟩, by decide +kernel⟩
set_option maxRecDepth 20000 in
theorem ci_M_capped : Cond.static y_M_capped ∈ WS := ws_5 78 rfl rfl
set_option maxRecDepth 20000 in
theorem cf_M_findWays : CF y_M_findWays c_M_findWays 7 none 0 := ⟨ws_5 72 rfl rfl, ws_1 9 rfl rfl, ⟨by decide +kernel, by decide +kernel⟩, by decide +kernel⟩
set_option maxRecDepth 20000 in
theorem ci_M_findWays : Cond.instanceMethod y_M_findWays ∈ WS ∧ Cond.selects y_M_findWays.cls y_M_findWays y_M_findWays ∈ WS := ⟨ws_5 71 rfl rfl, ws_p 49 rfl⟩
set_option maxRecDepth 20000 in
theorem cf_M_waysAlong : CF y_M_waysAlong c_M_waysAlong 11 none 3 := ⟨ws_5 76 rfl rfl, ws_1 9 rfl rfl, ⟨by decide +kernel, by decide +kernel⟩, by decide +kernel⟩
set_option maxRecDepth 20000 in
theorem ci_M_waysAlong : Cond.instanceMethod y_M_waysAlong ∈ WS ∧ Cond.selects y_M_waysAlong.cls y_M_waysAlong y_M_waysAlong ∈ WS := ⟨ws_5 75 rfl rfl, ws_p 50 rfl⟩
set_option maxRecDepth 20000 in
theorem cf_M_before : CF y_M_before c_M_before 8 (some .long) 2 := ⟨ws_5 100 rfl rfl, ws_1 9 rfl rfl, ⟨by decide +kernel, by decide +kernel⟩, by decide +kernel⟩
set_option maxRecDepth 20000 in
theorem ci_M_before : Cond.instanceMethod y_M_before ∈ WS ∧ Cond.selects y_M_before.cls y_M_before y_M_before ∈ WS := ⟨ws_5 99 rfl rfl, ws_p 55 rfl⟩
set_option maxRecDepth 20000 in
theorem cf_M_reachOf : CF y_M_reachOf c_M_reachOf 7 (some .int) 3 := ⟨ws_5 92 rfl rfl, ws_1 9 rfl rfl, ⟨by decide +kernel, by decide +kernel⟩, by decide +kernel⟩
set_option maxRecDepth 20000 in
theorem ci_M_reachOf : Cond.instanceMethod y_M_reachOf ∈ WS ∧ Cond.selects y_M_reachOf.cls y_M_reachOf y_M_reachOf ∈ WS := ⟨ws_5 91 rfl rfl, ws_p 53 rfl⟩
set_option maxRecDepth 20000 in
theorem cf_M_push : CF y_M_push c_M_push 5 none 3 := ⟨ws_5 96 rfl rfl, ws_1 9 rfl rfl, ⟨by decide +kernel, by decide +kernel⟩, by decide +kernel⟩
set_option maxRecDepth 20000 in
theorem ci_M_push : Cond.instanceMethod y_M_push ∈ WS ∧ Cond.selects y_M_push.cls y_M_push y_M_push ∈ WS := ⟨ws_5 95 rfl rfl, ws_p 54 rfl⟩
set_option maxRecDepth 20000 in
theorem cf_M_makeNode : CF y_M_makeNode c_M_makeNode 13 none 3 := ⟨ws_5 88 rfl rfl, ws_1 9 rfl rfl, ⟨by decide +kernel, by decide +kernel⟩, by decide +kernel⟩
set_option maxRecDepth 20000 in
theorem ci_M_makeNode : Cond.instanceMethod y_M_makeNode ∈ WS ∧ Cond.selects y_M_makeNode.cls y_M_makeNode y_M_makeNode ∈ WS := ⟨ws_5 87 rfl rfl, ws_p 52 rfl⟩
set_option maxRecDepth 20000 in
theorem cf_M_makeTree : CF y_M_makeTree c_M_makeTree 3 (some .boolean) 0 := ⟨ws_5 84 rfl rfl, ws_1 9 rfl rfl, ⟨by decide +kernel, by decide +kernel⟩, by decide +kernel⟩
set_option maxRecDepth 20000 in
theorem ci_M_makeTree : Cond.instanceMethod y_M_makeTree ∈ WS ∧ Cond.selects y_M_makeTree.cls y_M_makeTree y_M_makeTree ∈ WS := ⟨ws_5 83 rfl rfl, ws_p 51 rfl⟩
set_option maxRecDepth 20000 in
theorem cf_M_parse : CF y_M_parse c_M_parse 3 (some .int) 0 := ⟨ws_5 25 rfl rfl, ws_1 9 rfl rfl, ⟨by decide +kernel, by decide +kernel⟩, by decide +kernel⟩
set_option maxRecDepth 20000 in
theorem ci_M_parse : Cond.instanceMethod y_M_parse ∈ WS ∧ Cond.selects y_M_parse.cls y_M_parse y_M_parse ∈ WS := ⟨ws_5 23 rfl rfl, ws_5 24 rfl rfl⟩
set_option maxRecDepth 20000 in
theorem cf_M_rule : CF y_M_rule c_M_rule 1 (some .int) 0 := ⟨ws_5 104 rfl rfl, ws_1 9 rfl rfl, ⟨by decide +kernel, by decide +kernel⟩, by decide +kernel⟩
set_option maxRecDepth 20000 in
theorem ci_M_rule : Cond.instanceMethod y_M_rule ∈ WS ∧ Cond.selects y_M_rule.cls y_M_rule y_M_rule ∈ WS := ⟨ws_5 102 rfl rfl, ws_5 103 rfl rfl⟩
set_option maxRecDepth 20000 in
theorem cf_M_isThere : CF y_M_isThere c_M_isThere 2 (some .boolean) 1 := ⟨ws_5 112 rfl rfl, ws_1 9 rfl rfl, ⟨by decide +kernel, by decide +kernel⟩, by decide +kernel⟩
set_option maxRecDepth 20000 in
theorem ci_M_isThere : Cond.instanceMethod y_M_isThere ∈ WS ∧ Cond.selects y_M_isThere.cls y_M_isThere y_M_isThere ∈ WS := ⟨ws_5 111 rfl rfl, ws_p 56 rfl⟩
set_option maxRecDepth 20000 in
theorem cf_M_alternative : CF y_M_alternative c_M_alternative 3 (some .int) 1 := ⟨ws_5 108 rfl rfl, ws_1 9 rfl rfl, ⟨by decide +kernel, by decide +kernel⟩, by decide +kernel⟩
set_option maxRecDepth 20000 in
theorem ci_M_alternative : Cond.instanceMethod y_M_alternative ∈ WS ∧ Cond.selects y_M_alternative.cls y_M_alternative y_M_alternative ∈ WS := ⟨ws_5 106 rfl rfl, ws_5 107 rfl rfl⟩
set_option maxRecDepth 20000 in
theorem cf_M_symbol : CF y_M_symbol c_M_symbol 4 (some .int) 2 := ⟨ws_5 116 rfl rfl, ws_1 9 rfl rfl, ⟨by decide +kernel, by decide +kernel⟩, by decide +kernel⟩
set_option maxRecDepth 20000 in
theorem ci_M_symbol : Cond.instanceMethod y_M_symbol ∈ WS ∧ Cond.selects y_M_symbol.cls y_M_symbol y_M_symbol ∈ WS := ⟨ws_5 114 rfl rfl, ws_5 115 rfl rfl⟩
set_option maxRecDepth 20000 in
theorem cf_M_clear : CF y_M_clear c_M_clear 2 (some .int) 0 := ⟨ws_5 120 rfl rfl, ws_1 9 rfl rfl, ⟨by decide +kernel, by decide +kernel⟩, by decide +kernel⟩
set_option maxRecDepth 20000 in
theorem ci_M_clear : Cond.instanceMethod y_M_clear ∈ WS ∧ Cond.selects y_M_clear.cls y_M_clear y_M_clear ∈ WS := ⟨ws_5 118 rfl rfl, ws_5 119 rfl rfl⟩
set_option maxRecDepth 20000 in
theorem cf_M_fault : CF y_M_fault c_M_fault 1 (some .int) 0 := ⟨ws_5 124 rfl rfl, ws_1 9 rfl rfl, ⟨by decide +kernel, by decide +kernel⟩, by decide +kernel⟩
set_option maxRecDepth 20000 in
theorem ci_M_fault : Cond.instanceMethod y_M_fault ∈ WS ∧ Cond.selects y_M_fault.cls y_M_fault y_M_fault ∈ WS := ⟨ws_5 122 rfl rfl, ws_5 123 rfl rfl⟩
set_option maxRecDepth 20000 in
theorem cf_M_faulty : CF y_M_faulty c_M_faulty 1 (some .int) 0 := ⟨ws_5 128 rfl rfl, ws_1 9 rfl rfl, ⟨by decide +kernel, by decide +kernel⟩, by decide +kernel⟩
set_option maxRecDepth 20000 in
theorem ci_M_faulty : Cond.instanceMethod y_M_faulty ∈ WS ∧ Cond.selects y_M_faulty.cls y_M_faulty y_M_faulty ∈ WS := ⟨ws_5 126 rfl rfl, ws_5 127 rfl rfl⟩
set_option maxRecDepth 20000 in
theorem cf_M_token : CF y_M_token c_M_token 2 (some .int) 1 := ⟨ws_5 132 rfl rfl, ws_1 9 rfl rfl, ⟨by decide +kernel, by decide +kernel⟩, by decide +kernel⟩
set_option maxRecDepth 20000 in
theorem ci_M_token : Cond.instanceMethod y_M_token ∈ WS ∧ Cond.selects y_M_token.cls y_M_token y_M_token ∈ WS := ⟨ws_5 130 rfl rfl, ws_5 131 rfl rfl⟩
set_option maxRecDepth 20000 in
theorem cf_M_keep : CF y_M_keep c_M_keep 2 none 1 := ⟨ws_5 136 rfl rfl, ws_1 9 rfl rfl, ⟨by decide +kernel, by decide +kernel⟩, by decide +kernel⟩
set_option maxRecDepth 20000 in
theorem ci_M_keep : Cond.instanceMethod y_M_keep ∈ WS ∧ Cond.selects y_M_keep.cls y_M_keep y_M_keep ∈ WS := ⟨ws_5 134 rfl rfl, ws_5 135 rfl rfl⟩
set_option maxRecDepth 20000 in
theorem cf_M_nodes : CF y_M_nodes c_M_nodes 1 (some .int) 0 := ⟨ws_5 140 rfl rfl, ws_1 9 rfl rfl, ⟨by decide +kernel, by decide +kernel⟩, by decide +kernel⟩
set_option maxRecDepth 20000 in
theorem ci_M_nodes : Cond.instanceMethod y_M_nodes ∈ WS ∧ Cond.selects y_M_nodes.cls y_M_nodes y_M_nodes ∈ WS := ⟨ws_5 138 rfl rfl, ws_5 139 rfl rfl⟩
set_option maxRecDepth 20000 in
theorem cf_M_node : CF y_M_node c_M_node 3 (some .int) 2 := ⟨ws_5 144 rfl rfl, ws_1 9 rfl rfl, ⟨by decide +kernel, by decide +kernel⟩, by decide +kernel⟩
set_option maxRecDepth 20000 in
theorem ci_M_node : Cond.instanceMethod y_M_node ∈ WS ∧ Cond.selects y_M_node.cls y_M_node y_M_node ∈ WS := ⟨ws_5 142 rfl rfl, ws_5 143 rfl rfl⟩
set_option maxRecDepth 20000 in
theorem cf_M_reach : CF y_M_reach c_M_reach 1 (some .int) 0 := ⟨ws_5 148 rfl rfl, ws_1 9 rfl rfl, ⟨by decide +kernel, by decide +kernel⟩, by decide +kernel⟩
set_option maxRecDepth 20000 in
theorem ci_M_reach : Cond.instanceMethod y_M_reach ∈ WS ∧ Cond.selects y_M_reach.cls y_M_reach y_M_reach ∈ WS := ⟨ws_5 146 rfl rfl, ws_5 147 rfl rfl⟩
set_option maxRecDepth 20000 in
theorem cf_M_findNexts : CF y_M_findNexts c_M_findNexts 8 none 1 := ⟨ws_5 156 rfl rfl, ws_1 9 rfl rfl, ⟨by decide +kernel, by decide +kernel⟩, by decide +kernel⟩
set_option maxRecDepth 20000 in
theorem ci_M_findNexts : Cond.instanceMethod y_M_findNexts ∈ WS ∧ Cond.selects y_M_findNexts.cls y_M_findNexts y_M_findNexts ∈ WS := ⟨ws_5 155 rfl rfl, ws_p 57 rfl⟩
set_option maxRecDepth 20000 in
theorem cf_M_nextAlong : CF y_M_nextAlong c_M_nextAlong 12 (some .long) 4 := ⟨ws_5 160 rfl rfl, ws_1 9 rfl rfl, ⟨by decide +kernel, by decide +kernel⟩, by decide +kernel⟩
set_option maxRecDepth 20000 in
theorem ci_M_nextAlong : Cond.instanceMethod y_M_nextAlong ∈ WS ∧ Cond.selects y_M_nextAlong.cls y_M_nextAlong y_M_nextAlong ∈ WS := ⟨ws_5 159 rfl rfl, ws_p 58 rfl⟩
set_option maxRecDepth 20000 in
theorem cf_M_expected : CF y_M_expected c_M_expected 2 (some .long) 1 := ⟨ws_5 152 rfl rfl, ws_1 9 rfl rfl, ⟨by decide +kernel, by decide +kernel⟩, by decide +kernel⟩
set_option maxRecDepth 20000 in
theorem ci_M_expected : Cond.instanceMethod y_M_expected ∈ WS ∧ Cond.selects y_M_expected.cls y_M_expected y_M_expected ∈ WS := ⟨ws_5 150 rfl rfl, ws_5 151 rfl rfl⟩
set_option maxRecDepth 20000 in
theorem cf_M_firstOf : CF y_M_firstOf c_M_firstOf 9 (some .long) 3 := ⟨ws_5 177 rfl rfl, ws_1 9 rfl rfl, ⟨by decide +kernel, by decide +kernel⟩, by decide +kernel⟩
set_option maxRecDepth 20000 in
theorem ci_M_firstOf : Cond.instanceMethod y_M_firstOf ∈ WS ∧ Cond.selects y_M_firstOf.cls y_M_firstOf y_M_firstOf ∈ WS := ⟨ws_5 176 rfl rfl, ws_p 61 rfl⟩
set_option maxRecDepth 20000 in
theorem cf_M_findSets : CF y_M_findSets c_M_findSets 4 none 0 := ⟨ws_5 173 rfl rfl, ws_1 9 rfl rfl, ⟨by decide +kernel, by decide +kernel⟩, by decide +kernel⟩
set_option maxRecDepth 20000 in
theorem ci_M_findSets : Cond.instanceMethod y_M_findSets ∈ WS ∧ Cond.selects y_M_findSets.cls y_M_findSets y_M_findSets ∈ WS := ⟨ws_5 172 rfl rfl, ws_p 60 rfl⟩
set_option maxRecDepth 20000 in
theorem cf_M_followAlong : CF y_M_followAlong c_M_followAlong 5 none 2 := ⟨ws_5 181 rfl rfl, ws_1 9 rfl rfl, ⟨by decide +kernel, by decide +kernel⟩, by decide +kernel⟩
set_option maxRecDepth 20000 in
theorem ci_M_followAlong : Cond.instanceMethod y_M_followAlong ∈ WS ∧ Cond.selects y_M_followAlong.cls y_M_followAlong y_M_followAlong ∈ WS := ⟨ws_5 180 rfl rfl, ws_p 62 rfl⟩
set_option maxRecDepth 20000 in
theorem cf_M_look : CF y_M_look c_M_look 2 none 1 := ⟨ws_5 169 rfl rfl, ws_1 9 rfl rfl, ⟨by decide +kernel, by decide +kernel⟩, by decide +kernel⟩
set_option maxRecDepth 20000 in
theorem ci_M_look : Cond.instanceMethod y_M_look ∈ WS ∧ Cond.selects y_M_look.cls y_M_look y_M_look ∈ WS := ⟨ws_5 168 rfl rfl, ws_p 59 rfl⟩
set_option maxRecDepth 20000 in
theorem cf_M_isNothing : CF y_M_isNothing c_M_isNothing 2 (some .boolean) 1 := ⟨ws_5 165 rfl rfl, ws_1 9 rfl rfl, ⟨by decide +kernel, by decide +kernel⟩, by decide +kernel⟩
set_option maxRecDepth 20000 in
theorem ci_M_isNothing : Cond.instanceMethod y_M_isNothing ∈ WS ∧ Cond.selects y_M_isNothing.cls y_M_isNothing y_M_isNothing ∈ WS := ⟨ws_5 163 rfl rfl, ws_5 164 rfl rfl⟩
set_option maxRecDepth 20000 in
theorem cf_M_first : CF y_M_first c_M_first 2 (some .long) 1 := ⟨ws_5 185 rfl rfl, ws_1 9 rfl rfl, ⟨by decide +kernel, by decide +kernel⟩, by decide +kernel⟩
set_option maxRecDepth 20000 in
theorem ci_M_first : Cond.instanceMethod y_M_first ∈ WS ∧ Cond.selects y_M_first.cls y_M_first y_M_first ∈ WS := ⟨ws_5 183 rfl rfl, ws_5 184 rfl rfl⟩
set_option maxRecDepth 20000 in
theorem cf_M_following : CF y_M_following c_M_following 2 (some .long) 1 := ⟨ws_5 189 rfl rfl, ws_1 9 rfl rfl, ⟨by decide +kernel, by decide +kernel⟩, by decide +kernel⟩
set_option maxRecDepth 20000 in
theorem ci_M_following : Cond.instanceMethod y_M_following ∈ WS ∧ Cond.selects y_M_following.cls y_M_following y_M_following ∈ WS := ⟨ws_5 187 rfl rfl, ws_5 188 rfl rfl⟩
set_option maxRecDepth 20000 in
theorem cf_M_lets : CF y_M_lets c_M_lets 6 (some .int) 2 := ⟨ws_5 193 rfl rfl, ws_1 9 rfl rfl, ⟨by decide +kernel, by decide +kernel⟩, by decide +kernel⟩
set_option maxRecDepth 20000 in
theorem ci_M_lets : Cond.instanceMethod y_M_lets ∈ WS ∧ Cond.selects y_M_lets.cls y_M_lets y_M_lets ∈ WS := ⟨ws_5 191 rfl rfl, ws_5 192 rfl rfl⟩
set_option maxRecDepth 20000 in
theorem cf_M_count : CF y_M_count c_M_count 2 (some .int) 1 := ⟨ws_5 197 rfl rfl, ws_1 9 rfl rfl, ⟨by decide +kernel, by decide +kernel⟩, by decide +kernel⟩
set_option maxRecDepth 20000 in
theorem ci_M_count : Cond.instanceMethod y_M_count ∈ WS ∧ Cond.selects y_M_count.cls y_M_count y_M_count ∈ WS := ⟨ws_5 195 rfl rfl, ws_5 196 rfl rfl⟩
set_option maxRecDepth 20000 in
theorem cf_C_init : CF y_C_init c_C_init 4 none 3 := ⟨ws_1 100 rfl rfl, ws_1 5 rfl rfl, ⟨by decide +kernel, by decide +kernel⟩, by decide +kernel⟩
set_option maxRecDepth 20000 in
theorem ci_C_init : Cond.instanceMethod y_C_init ∈ WS := ws_1 99 rfl rfl
set_option maxRecDepth 20000 in
theorem cf_C_fill : CF y_C_fill c_C_fill 4 none 1 := ⟨ws_3 101 rfl rfl, ws_1 5 rfl rfl, ⟨by decide +kernel, by decide +kernel⟩, by decide +kernel⟩
set_option maxRecDepth 20000 in
theorem ci_C_fill : Cond.instanceMethod y_C_fill ∈ WS ∧ Cond.selects y_C_fill.cls y_C_fill y_C_fill ∈ WS := ⟨ws_3 99 rfl rfl, ws_3 100 rfl rfl⟩
set_option maxRecDepth 20000 in
theorem cf_C_hasTree : CF y_C_hasTree c_C_hasTree 1 (some .boolean) 0 := ⟨ws_3 147 rfl rfl, ws_1 5 rfl rfl, ⟨by decide +kernel, by decide +kernel⟩, by decide +kernel⟩
set_option maxRecDepth 20000 in
theorem ci_C_hasTree : Cond.instanceMethod y_C_hasTree ∈ WS ∧ Cond.selects y_C_hasTree.cls y_C_hasTree y_C_hasTree ∈ WS := ⟨ws_3 145 rfl rfl, ws_3 146 rfl rfl⟩
set_option maxRecDepth 20000 in
theorem cf_C_farOfAll : CF y_C_farOfAll c_C_farOfAll 1 (some .int) 0 := ⟨ws_4 99 rfl rfl, ws_1 5 rfl rfl, ⟨by decide +kernel, by decide +kernel⟩, by decide +kernel⟩
set_option maxRecDepth 20000 in
theorem ci_C_farOfAll : Cond.instanceMethod y_C_farOfAll ∈ WS ∧ Cond.selects y_C_farOfAll.cls y_C_farOfAll y_C_farOfAll ∈ WS := ⟨ws_4 97 rfl rfl, ws_4 98 rfl rfl⟩
set_option maxRecDepth 20000 in
theorem cf_C_soonOfAll : CF y_C_soonOfAll c_C_soonOfAll 1 (some .long) 0 := ⟨ws_4 111 rfl rfl, ws_1 5 rfl rfl, ⟨by decide +kernel, by decide +kernel⟩, by decide +kernel⟩
set_option maxRecDepth 20000 in
theorem ci_C_soonOfAll : Cond.instanceMethod y_C_soonOfAll ∈ WS ∧ Cond.selects y_C_soonOfAll.cls y_C_soonOfAll y_C_soonOfAll ∈ WS := ⟨ws_4 109 rfl rfl, ws_4 110 rfl rfl⟩
set_option maxRecDepth 20000 in
theorem cf_C_end : CF y_C_end c_C_end 1 (some .int) 0 := ⟨ws_3 184 rfl rfl, ws_1 5 rfl rfl, ⟨by decide +kernel, by decide +kernel⟩, by decide +kernel⟩
set_option maxRecDepth 20000 in
theorem ci_C_end : Cond.instanceMethod y_C_end ∈ WS ∧ Cond.selects y_C_end.cls y_C_end y_C_end ∈ WS := ⟨ws_3 182 rfl rfl, ws_3 183 rfl rfl⟩
set_option maxRecDepth 20000 in
theorem cf_C_at : CF y_C_at c_C_at 2 (some .int) 2 := ⟨ws_3 140 rfl rfl, ws_1 5 rfl rfl, ⟨by decide +kernel, by decide +kernel⟩, by decide +kernel⟩
set_option maxRecDepth 20000 in
theorem ci_C_at : Cond.static y_C_at ∈ WS := ws_3 139 rfl rfl
set_option maxRecDepth 20000 in
theorem cf_C_rowFits : CF y_C_rowFits c_C_rowFits 2 (some .long) 1 := ⟨ws_3 213 rfl rfl, ws_1 5 rfl rfl, ⟨by decide +kernel, by decide +kernel⟩, by decide +kernel⟩
set_option maxRecDepth 20000 in
theorem ci_C_rowFits : Cond.instanceMethod y_C_rowFits ∈ WS ∧ Cond.selects y_C_rowFits.cls y_C_rowFits y_C_rowFits ∈ WS := ⟨ws_3 211 rfl rfl, ws_3 212 rfl rfl⟩
set_option maxRecDepth 20000 in
theorem cf_C_rowFar : CF y_C_rowFar c_C_rowFar 2 (some .int) 1 := ⟨ws_3 209 rfl rfl, ws_1 5 rfl rfl, ⟨by decide +kernel, by decide +kernel⟩, by decide +kernel⟩
set_option maxRecDepth 20000 in
theorem ci_C_rowFar : Cond.instanceMethod y_C_rowFar ∈ WS ∧ Cond.selects y_C_rowFar.cls y_C_rowFar y_C_rowFar ∈ WS := ⟨ws_3 207 rfl rfl, ws_3 208 rfl rfl⟩
set_option maxRecDepth 20000 in
theorem cf_C_ruleFits : CF y_C_ruleFits c_C_ruleFits 2 (some .long) 1 := ⟨ws_4 23 rfl rfl, ws_1 5 rfl rfl, ⟨by decide +kernel, by decide +kernel⟩, by decide +kernel⟩
set_option maxRecDepth 20000 in
theorem ci_C_ruleFits : Cond.instanceMethod y_C_ruleFits ∈ WS ∧ Cond.selects y_C_ruleFits.cls y_C_ruleFits y_C_ruleFits ∈ WS := ⟨ws_4 21 rfl rfl, ws_4 22 rfl rfl⟩
set_option maxRecDepth 20000 in
theorem cf_C_ruleFar : CF y_C_ruleFar c_C_ruleFar 2 (some .int) 1 := ⟨ws_4 19 rfl rfl, ws_1 5 rfl rfl, ⟨by decide +kernel, by decide +kernel⟩, by decide +kernel⟩
set_option maxRecDepth 20000 in
theorem ci_C_ruleFar : Cond.instanceMethod y_C_ruleFar ∈ WS ∧ Cond.selects y_C_ruleFar.cls y_C_ruleFar y_C_ruleFar ∈ WS := ⟨ws_4 17 rfl rfl, ws_4 18 rfl rfl⟩
set_option maxRecDepth 20000 in
theorem cf_C_findPlaces : CF y_C_findPlaces c_C_findPlaces 2 none 0 := ⟨ws_3 105 rfl rfl, ws_1 5 rfl rfl, ⟨by decide +kernel, by decide +kernel⟩, by decide +kernel⟩
set_option maxRecDepth 20000 in
theorem ci_C_findPlaces : Cond.instanceMethod y_C_findPlaces ∈ WS ∧ Cond.selects y_C_findPlaces.cls y_C_findPlaces y_C_findPlaces ∈ WS := ⟨ws_3 104 rfl rfl, ws_p 17 rfl⟩
set_option maxRecDepth 20000 in
theorem cf_C_fillRule : CF y_C_fillRule c_C_fillRule 10 none 2 := ⟨ws_3 118 rfl rfl, ws_1 5 rfl rfl, ⟨by decide +kernel, by decide +kernel⟩, by decide +kernel⟩
set_option maxRecDepth 20000 in
theorem ci_C_fillRule : Cond.instanceMethod y_C_fillRule ∈ WS ∧ Cond.selects y_C_fillRule.cls y_C_fillRule y_C_fillRule ∈ WS := ⟨ws_3 117 rfl rfl, ws_p 18 rfl⟩
set_option maxRecDepth 20000 in
theorem cf_C_readRow : CF y_C_readRow c_C_readRow 5 none 2 := ⟨ws_3 124 rfl rfl, ws_1 5 rfl rfl, ⟨by decide +kernel, by decide +kernel⟩, by decide +kernel⟩
set_option maxRecDepth 20000 in
theorem ci_C_readRow : Cond.instanceMethod y_C_readRow ∈ WS ∧ Cond.selects y_C_readRow.cls y_C_readRow y_C_readRow ∈ WS := ⟨ws_3 123 rfl rfl, ws_p 19 rfl⟩
set_option maxRecDepth 20000 in
theorem cf_C_readToken : CF y_C_readToken c_C_readToken 3 none 1 := ⟨ws_3 131 rfl rfl, ws_1 5 rfl rfl, ⟨by decide +kernel, by decide +kernel⟩, by decide +kernel⟩
set_option maxRecDepth 20000 in
theorem ci_C_readToken : Cond.instanceMethod y_C_readToken ∈ WS ∧ Cond.selects y_C_readToken.cls y_C_readToken y_C_readToken ∈ WS := ⟨ws_3 130 rfl rfl, ws_p 20 rfl⟩
set_option maxRecDepth 20000 in
theorem cf_C_readRule : CF y_C_readRule c_C_readRule 7 none 2 := ⟨ws_3 137 rfl rfl, ws_1 5 rfl rfl, ⟨by decide +kernel, by decide +kernel⟩, by decide +kernel⟩
set_option maxRecDepth 20000 in
theorem ci_C_readRule : Cond.instanceMethod y_C_readRule ∈ WS ∧ Cond.selects y_C_readRule.cls y_C_readRule y_C_readRule ∈ WS := ⟨ws_3 136 rfl rfl, ws_p 21 rfl⟩
set_option maxRecDepth 20000 in
theorem cf_G_init : CF y_G_init c_G_init 1 none 0 := ⟨ws_1 32 rfl rfl, ws_1 2 rfl rfl, ⟨by decide +kernel, by decide +kernel⟩, by decide +kernel⟩
set_option maxRecDepth 20000 in
theorem ci_G_init : Cond.instanceMethod y_G_init ∈ WS := ws_1 31 rfl rfl
set_option maxRecDepth 20000 in
theorem cf_G_isToken : CF y_G_isToken c_G_isToken 1 (some .boolean) 1 := ⟨ws_2 49 rfl rfl, ws_1 2 rfl rfl, ⟨by decide +kernel, by decide +kernel⟩, by decide +kernel⟩
set_option maxRecDepth 20000 in
theorem ci_G_isToken : Cond.static y_G_isToken ∈ WS := ws_2 48 rfl rfl
set_option maxRecDepth 20000 in
theorem cf_G_ruleOf : CF y_G_ruleOf c_G_ruleOf 1 (some .int) 1 := ⟨ws_2 52 rfl rfl, ws_1 2 rfl rfl, ⟨by decide +kernel, by decide +kernel⟩, by decide +kernel⟩
set_option maxRecDepth 20000 in
theorem ci_G_ruleOf : Cond.static y_G_ruleOf ∈ WS := ws_2 51 rfl rfl
set_option maxRecDepth 20000 in
theorem cf_G_row : CF y_G_row c_G_row 2 (some .int) 2 := ⟨ws_2 30 rfl rfl, ws_1 2 rfl rfl, ⟨by decide +kernel, by decide +kernel⟩, by decide +kernel⟩
set_option maxRecDepth 20000 in
theorem ci_G_row : Cond.static y_G_row ∈ WS := ws_2 29 rfl rfl
set_option maxRecDepth 20000 in
theorem cf_G_addRule : CF y_G_addRule c_G_addRule 1 (some .int) 0 := ⟨ws_2 209 rfl rfl, ws_1 2 rfl rfl, ⟨by decide +kernel, by decide +kernel⟩, by decide +kernel⟩
set_option maxRecDepth 20000 in
theorem ci_G_addRule : Cond.instanceMethod y_G_addRule ∈ WS ∧ Cond.selects y_G_addRule.cls y_G_addRule y_G_addRule ∈ WS := ⟨ws_2 207 rfl rfl, ws_2 208 rfl rfl⟩
set_option maxRecDepth 20000 in
theorem cf_G_addAlternative : CF y_G_addAlternative c_G_addAlternative 2 (some .int) 1 := ⟨ws_3 3 rfl rfl, ws_1 2 rfl rfl, ⟨by decide +kernel, by decide +kernel⟩, by decide +kernel⟩
set_option maxRecDepth 20000 in
theorem ci_G_addAlternative : Cond.instanceMethod y_G_addAlternative ∈ WS ∧ Cond.selects y_G_addAlternative.cls y_G_addAlternative y_G_addAlternative ∈ WS := ⟨ws_3 1 rfl rfl, ws_3 2 rfl rfl⟩
set_option maxRecDepth 20000 in
theorem cf_G_addSymbol : CF y_G_addSymbol c_G_addSymbol 4 (some .int) 2 := ⟨ws_3 56 rfl rfl, ws_1 2 rfl rfl, ⟨by decide +kernel, by decide +kernel⟩, by decide +kernel⟩
set_option maxRecDepth 20000 in
theorem ci_G_addSymbol : Cond.instanceMethod y_G_addSymbol ∈ WS ∧ Cond.selects y_G_addSymbol.cls y_G_addSymbol y_G_addSymbol ∈ WS := ⟨ws_3 54 rfl rfl, ws_3 55 rfl rfl⟩
set_option maxRecDepth 20000 in
theorem cf_G_loseRules : CF y_G_loseRules c_G_loseRules 2 (some .int) 0 := ⟨ws_2 7 rfl rfl, ws_1 2 rfl rfl, ⟨by decide +kernel, by decide +kernel⟩, by decide +kernel⟩
set_option maxRecDepth 20000 in
theorem ci_G_loseRules : Cond.instanceMethod y_G_loseRules ∈ WS ∧ Cond.selects y_G_loseRules.cls y_G_loseRules y_G_loseRules ∈ WS := ⟨ws_2 5 rfl rfl, ws_2 6 rfl rfl⟩
set_option maxRecDepth 20000 in
theorem cf_G_rules : CF y_G_rules c_G_rules 1 (some .int) 0 := ⟨ws_2 23 rfl rfl, ws_1 2 rfl rfl, ⟨by decide +kernel, by decide +kernel⟩, by decide +kernel⟩
set_option maxRecDepth 20000 in
theorem ci_G_rules : Cond.instanceMethod y_G_rules ∈ WS ∧ Cond.selects y_G_rules.cls y_G_rules y_G_rules ∈ WS := ⟨ws_2 21 rfl rfl, ws_2 22 rfl rfl⟩
set_option maxRecDepth 20000 in
theorem cf_G_alternatives : CF y_G_alternatives c_G_alternatives 2 (some .int) 1 := ⟨ws_2 27 rfl rfl, ws_1 2 rfl rfl, ⟨by decide +kernel, by decide +kernel⟩, by decide +kernel⟩
set_option maxRecDepth 20000 in
theorem ci_G_alternatives : Cond.instanceMethod y_G_alternatives ∈ WS ∧ Cond.selects y_G_alternatives.cls y_G_alternatives y_G_alternatives ∈ WS := ⟨ws_2 25 rfl rfl, ws_2 26 rfl rfl⟩
set_option maxRecDepth 20000 in
theorem cf_G_latestRow : CF y_G_latestRow c_G_latestRow 2 (some .int) 1 := ⟨ws_3 7 rfl rfl, ws_1 2 rfl rfl, ⟨by decide +kernel, by decide +kernel⟩, by decide +kernel⟩
set_option maxRecDepth 20000 in
theorem ci_G_latestRow : Cond.instanceMethod y_G_latestRow ∈ WS ∧ Cond.selects y_G_latestRow.cls y_G_latestRow y_G_latestRow ∈ WS := ⟨ws_3 5 rfl rfl, ws_3 6 rfl rfl⟩
set_option maxRecDepth 20000 in
theorem cf_G_length : CF y_G_length c_G_length 2 (some .int) 1 := ⟨ws_2 38 rfl rfl, ws_1 2 rfl rfl, ⟨by decide +kernel, by decide +kernel⟩, by decide +kernel⟩
set_option maxRecDepth 20000 in
theorem ci_G_length : Cond.instanceMethod y_G_length ∈ WS ∧ Cond.selects y_G_length.cls y_G_length y_G_length ∈ WS := ⟨ws_2 36 rfl rfl, ws_2 37 rfl rfl⟩
set_option maxRecDepth 20000 in
theorem cf_G_symbolAt : CF y_G_symbolAt c_G_symbolAt 3 (some .int) 2 := ⟨ws_2 42 rfl rfl, ws_1 2 rfl rfl, ⟨by decide +kernel, by decide +kernel⟩, by decide +kernel⟩
set_option maxRecDepth 20000 in
theorem ci_G_symbolAt : Cond.instanceMethod y_G_symbolAt ∈ WS ∧ Cond.selects y_G_symbolAt.cls y_G_symbolAt y_G_symbolAt ∈ WS := ⟨ws_2 40 rfl rfl, ws_2 41 rfl rfl⟩
set_option maxRecDepth 20000 in
theorem cf_G_rulesIn : CF y_G_rulesIn c_G_rulesIn 4 (some .int) 1 := ⟨ws_3 223 rfl rfl, ws_1 2 rfl rfl, ⟨by decide +kernel, by decide +kernel⟩, by decide +kernel⟩
set_option maxRecDepth 20000 in
theorem ci_G_rulesIn : Cond.instanceMethod y_G_rulesIn ∈ WS ∧ Cond.selects y_G_rulesIn.cls y_G_rulesIn y_G_rulesIn ∈ WS := ⟨ws_3 221 rfl rfl, ws_3 222 rfl rfl⟩
set_option maxRecDepth 20000 in
theorem cf_I_init : CF y_I_init c_I_init 1 none 0 := ⟨ws_1 87 rfl rfl, ws_1 4 rfl rfl, ⟨by decide +kernel, by decide +kernel⟩, by decide +kernel⟩
set_option maxRecDepth 20000 in
theorem ci_I_init : Cond.instanceMethod y_I_init ∈ WS := ws_1 86 rfl rfl
set_option maxRecDepth 20000 in
theorem cf_I_add : CF y_I_add c_I_add 2 (some .int) 1 := ⟨ws_3 73 rfl rfl, ws_1 4 rfl rfl, ⟨by decide +kernel, by decide +kernel⟩, by decide +kernel⟩
set_option maxRecDepth 20000 in
theorem ci_I_add : Cond.instanceMethod y_I_add ∈ WS ∧ Cond.selects y_I_add.cls y_I_add y_I_add ∈ WS := ⟨ws_3 71 rfl rfl, ws_3 72 rfl rfl⟩
set_option maxRecDepth 20000 in
theorem cf_I_cut : CF y_I_cut c_I_cut 2 none 1 := ⟨ws_3 85 rfl rfl, ws_1 4 rfl rfl, ⟨by decide +kernel, by decide +kernel⟩, by decide +kernel⟩
set_option maxRecDepth 20000 in
theorem ci_I_cut : Cond.instanceMethod y_I_cut ∈ WS ∧ Cond.selects y_I_cut.cls y_I_cut y_I_cut ∈ WS := ⟨ws_3 83 rfl rfl, ws_3 84 rfl rfl⟩
set_option maxRecDepth 20000 in
theorem cf_I_size : CF y_I_size c_I_size 1 (some .int) 0 := ⟨ws_3 68 rfl rfl, ws_1 4 rfl rfl, ⟨by decide +kernel, by decide +kernel⟩, by decide +kernel⟩
set_option maxRecDepth 20000 in
theorem ci_I_size : Cond.instanceMethod y_I_size ∈ WS ∧ Cond.selects y_I_size.cls y_I_size y_I_size ∈ WS := ⟨ws_3 66 rfl rfl, ws_3 67 rfl rfl⟩
set_option maxRecDepth 20000 in
theorem cf_I_tokenAt : CF y_I_tokenAt c_I_tokenAt 2 (some .int) 1 := ⟨ws_3 109 rfl rfl, ws_1 4 rfl rfl, ⟨by decide +kernel, by decide +kernel⟩, by decide +kernel⟩
set_option maxRecDepth 20000 in
theorem ci_I_tokenAt : Cond.instanceMethod y_I_tokenAt ∈ WS ∧ Cond.selects y_I_tokenAt.cls y_I_tokenAt y_I_tokenAt ∈ WS := ⟨ws_3 107 rfl rfl, ws_3 108 rfl rfl⟩
set_option maxRecDepth 20000 in
theorem cf_P_init : CF y_P_init c_P_init 1 none 0 := ⟨ws_3 168 rfl rfl, ws_1 19 rfl rfl, ⟨by decide +kernel, by decide +kernel⟩, by decide +kernel⟩
set_option maxRecDepth 20000 in
theorem ci_P_init : Cond.instanceMethod y_P_init ∈ WS := ws_3 167 rfl rfl
set_option maxRecDepth 20000 in
theorem cf_S_init : CF y_S_init c_S_init 2 none 1 := ⟨ws_1 52 rfl rfl, ws_1 3 rfl rfl, ⟨by decide +kernel, by decide +kernel⟩, by decide +kernel⟩
set_option maxRecDepth 20000 in
theorem ci_S_init : Cond.instanceMethod y_S_init ∈ WS := ws_1 51 rfl rfl
set_option maxRecDepth 20000 in
theorem cf_S_outdate : CF y_S_outdate c_S_outdate 1 none 0 := ⟨ws_2 3 rfl rfl, ws_1 3 rfl rfl, ⟨by decide +kernel, by decide +kernel⟩, by decide +kernel⟩
set_option maxRecDepth 20000 in
theorem ci_S_outdate : Cond.instanceMethod y_S_outdate ∈ WS ∧ Cond.selects y_S_outdate.cls y_S_outdate y_S_outdate ∈ WS := ⟨ws_2 1 rfl rfl, ws_2 2 rfl rfl⟩
set_option maxRecDepth 20000 in
theorem cf_S_bringUpToDate : CF y_S_bringUpToDate c_S_bringUpToDate 1 none 0 := ⟨ws_2 15 rfl rfl, ws_1 3 rfl rfl, ⟨by decide +kernel, by decide +kernel⟩, by decide +kernel⟩
set_option maxRecDepth 20000 in
theorem ci_S_bringUpToDate : Cond.instanceMethod y_S_bringUpToDate ∈ WS ∧ Cond.selects y_S_bringUpToDate.cls y_S_bringUpToDate y_S_bringUpToDate ∈ WS := ⟨ws_2 13 rfl rfl, ws_2 14 rfl rfl⟩
set_option maxRecDepth 20000 in
theorem cf_S_faultKind : CF y_S_faultKind c_S_faultKind 1 (some .int) 0 := ⟨ws_2 111 rfl rfl, ws_1 3 rfl rfl, ⟨by decide +kernel, by decide +kernel⟩, by decide +kernel⟩
set_option maxRecDepth 20000 in
theorem ci_S_faultKind : Cond.instanceMethod y_S_faultKind ∈ WS ∧ Cond.selects y_S_faultKind.cls y_S_faultKind y_S_faultKind ∈ WS := ⟨ws_2 109 rfl rfl, ws_2 110 rfl rfl⟩
set_option maxRecDepth 20000 in
theorem cf_S_faultyRule : CF y_S_faultyRule c_S_faultyRule 1 (some .int) 0 := ⟨ws_2 119 rfl rfl, ws_1 3 rfl rfl, ⟨by decide +kernel, by decide +kernel⟩, by decide +kernel⟩
set_option maxRecDepth 20000 in
theorem ci_S_faultyRule : Cond.instanceMethod y_S_faultyRule ∈ WS ∧ Cond.selects y_S_faultyRule.cls y_S_faultyRule y_S_faultyRule ∈ WS := ⟨ws_2 117 rfl rfl, ws_2 118 rfl rfl⟩
set_option maxRecDepth 20000 in
theorem cf_S_inOrder : CF y_S_inOrder c_S_inOrder 2 (some .int) 1 := ⟨ws_3 114 rfl rfl, ws_1 3 rfl rfl, ⟨by decide +kernel, by decide +kernel⟩, by decide +kernel⟩
set_option maxRecDepth 20000 in
theorem ci_S_inOrder : Cond.instanceMethod y_S_inOrder ∈ WS ∧ Cond.selects y_S_inOrder.cls y_S_inOrder y_S_inOrder ∈ WS := ⟨ws_3 112 rfl rfl, ws_3 113 rfl rfl⟩
set_option maxRecDepth 20000 in
theorem cf_S_ruleIsNothing : CF y_S_ruleIsNothing c_S_ruleIsNothing 2 (some .boolean) 1 := ⟨ws_4 123 rfl rfl, ws_1 3 rfl rfl, ⟨by decide +kernel, by decide +kernel⟩, by decide +kernel⟩
set_option maxRecDepth 20000 in
theorem ci_S_ruleIsNothing : Cond.instanceMethod y_S_ruleIsNothing ∈ WS ∧ Cond.selects y_S_ruleIsNothing.cls y_S_ruleIsNothing y_S_ruleIsNothing ∈ WS := ⟨ws_4 121 rfl rfl, ws_4 122 rfl rfl⟩
set_option maxRecDepth 20000 in
theorem cf_S_ruleFirst : CF y_S_ruleFirst c_S_ruleFirst 2 (some .long) 1 := ⟨ws_4 134 rfl rfl, ws_1 3 rfl rfl, ⟨by decide +kernel, by decide +kernel⟩, by decide +kernel⟩
set_option maxRecDepth 20000 in
theorem ci_S_ruleFirst : Cond.instanceMethod y_S_ruleFirst ∈ WS ∧ Cond.selects y_S_ruleFirst.cls y_S_ruleFirst y_S_ruleFirst ∈ WS := ⟨ws_4 132 rfl rfl, ws_4 133 rfl rfl⟩
set_option maxRecDepth 20000 in
theorem cf_S_ruleFollowing : CF y_S_ruleFollowing c_S_ruleFollowing 2 (some .long) 1 := ⟨ws_4 145 rfl rfl, ws_1 3 rfl rfl, ⟨by decide +kernel, by decide +kernel⟩, by decide +kernel⟩
set_option maxRecDepth 20000 in
theorem ci_S_ruleFollowing : Cond.instanceMethod y_S_ruleFollowing ∈ WS ∧ Cond.selects y_S_ruleFollowing.cls y_S_ruleFollowing y_S_ruleFollowing ∈ WS := ⟨ws_4 143 rfl rfl, ws_4 144 rfl rfl⟩
set_option maxRecDepth 20000 in
theorem cf_S_letIn : CF y_S_letIn c_S_letIn 6 (some .int) 2 := ⟨ws_4 156 rfl rfl, ws_1 3 rfl rfl, ⟨by decide +kernel, by decide +kernel⟩, by decide +kernel⟩
set_option maxRecDepth 20000 in
theorem ci_S_letIn : Cond.instanceMethod y_S_letIn ∈ WS ∧ Cond.selects y_S_letIn.cls y_S_letIn y_S_letIn ∈ WS := ⟨ws_4 154 rfl rfl, ws_4 155 rfl rfl⟩
set_option maxRecDepth 20000 in
theorem cf_S_findNothing : CF y_S_findNothing c_S_findNothing 6 none 0 := ⟨ws_2 19 rfl rfl, ws_1 3 rfl rfl, ⟨by decide +kernel, by decide +kernel⟩, by decide +kernel⟩
set_option maxRecDepth 20000 in
theorem ci_S_findNothing : Cond.instanceMethod y_S_findNothing ∈ WS ∧ Cond.selects y_S_findNothing.cls y_S_findNothing y_S_findNothing ∈ WS := ⟨ws_2 18 rfl rfl, ws_p 0 rfl⟩
set_option maxRecDepth 20000 in
theorem cf_S_rowIsNothing : CF y_S_rowIsNothing c_S_rowIsNothing 3 (some .boolean) 1 := ⟨ws_2 34 rfl rfl, ws_1 3 rfl rfl, ⟨by decide +kernel, by decide +kernel⟩, by decide +kernel⟩
set_option maxRecDepth 20000 in
theorem ci_S_rowIsNothing : Cond.instanceMethod y_S_rowIsNothing ∈ WS ∧ Cond.selects y_S_rowIsNothing.cls y_S_rowIsNothing y_S_rowIsNothing ∈ WS := ⟨ws_2 33 rfl rfl, ws_p 1 rfl⟩
set_option maxRecDepth 20000 in
theorem cf_S_symbolIsNothing : CF y_S_symbolIsNothing c_S_symbolIsNothing 2 (some .boolean) 1 := ⟨ws_2 46 rfl rfl, ws_1 3 rfl rfl, ⟨by decide +kernel, by decide +kernel⟩, by decide +kernel⟩
set_option maxRecDepth 20000 in
theorem ci_S_symbolIsNothing : Cond.instanceMethod y_S_symbolIsNothing ∈ WS ∧ Cond.selects y_S_symbolIsNothing.cls y_S_symbolIsNothing y_S_symbolIsNothing ∈ WS := ⟨ws_2 45 rfl rfl, ws_p 2 rfl⟩
set_option maxRecDepth 20000 in
theorem cf_S_findLeft : CF y_S_findLeft c_S_findLeft 3 none 0 := ⟨ws_2 59 rfl rfl, ws_1 3 rfl rfl, ⟨by decide +kernel, by decide +kernel⟩, by decide +kernel⟩
set_option maxRecDepth 20000 in
theorem ci_S_findLeft : Cond.instanceMethod y_S_findLeft ∈ WS ∧ Cond.selects y_S_findLeft.cls y_S_findLeft y_S_findLeft ∈ WS := ⟨ws_2 58 rfl rfl, ws_p 3 rfl⟩
set_option maxRecDepth 20000 in
theorem cf_S_rulesAtLeft : CF y_S_rulesAtLeft c_S_rulesAtLeft 5 (some .int) 1 := ⟨ws_2 63 rfl rfl, ws_1 3 rfl rfl, ⟨by decide +kernel, by decide +kernel⟩, by decide +kernel⟩
set_option maxRecDepth 20000 in
theorem ci_S_rulesAtLeft : Cond.instanceMethod y_S_rulesAtLeft ∈ WS ∧ Cond.selects y_S_rulesAtLeft.cls y_S_rulesAtLeft y_S_rulesAtLeft ∈ WS := ⟨ws_2 62 rfl rfl, ws_p 4 rfl⟩
set_option maxRecDepth 20000 in
theorem cf_S_findFault : CF y_S_findFault c_S_findFault 3 none 0 := ⟨ws_2 67 rfl rfl, ws_1 3 rfl rfl, ⟨by decide +kernel, by decide +kernel⟩, by decide +kernel⟩
set_option maxRecDepth 20000 in
theorem ci_S_findFault : Cond.instanceMethod y_S_findFault ∈ WS ∧ Cond.selects y_S_findFault.cls y_S_findFault y_S_findFault ∈ WS := ⟨ws_2 66 rfl rfl, ws_p 5 rfl⟩
set_option maxRecDepth 20000 in
theorem cf_S_hasFault : CF y_S_hasFault c_S_hasFault 3 (some .boolean) 2 := ⟨ws_2 71 rfl rfl, ws_1 3 rfl rfl, ⟨by decide +kernel, by decide +kernel⟩, by decide +kernel⟩
set_option maxRecDepth 20000 in
theorem ci_S_hasFault : Cond.instanceMethod y_S_hasFault ∈ WS ∧ Cond.selects y_S_hasFault.cls y_S_hasFault y_S_hasFault ∈ WS := ⟨ws_2 70 rfl rfl, ws_p 6 rfl⟩
set_option maxRecDepth 20000 in
theorem cf_S_hasSymbolNotThere : CF y_S_hasSymbolNotThere c_S_hasSymbolNotThere 5 (some .boolean) 1 := ⟨ws_2 75 rfl rfl, ws_1 3 rfl rfl, ⟨by decide +kernel, by decide +kernel⟩, by decide +kernel⟩
set_option maxRecDepth 20000 in
theorem ci_S_hasSymbolNotThere : Cond.instanceMethod y_S_hasSymbolNotThere ∈ WS ∧ Cond.selects y_S_hasSymbolNotThere.cls y_S_hasSymbolNotThere y_S_hasSymbolNotThere ∈ WS := ⟨ws_2 74 rfl rfl, ws_p 7 rfl⟩
set_option maxRecDepth 20000 in
theorem cf_S_findOrder : CF y_S_findOrder c_S_findOrder 4 none 0 := ⟨ws_2 79 rfl rfl, ws_1 3 rfl rfl, ⟨by decide +kernel, by decide +kernel⟩, by decide +kernel⟩
set_option maxRecDepth 20000 in
theorem ci_S_findOrder : Cond.instanceMethod y_S_findOrder ∈ WS ∧ Cond.selects y_S_findOrder.cls y_S_findOrder y_S_findOrder ∈ WS := ⟨ws_2 78 rfl rfl, ws_p 8 rfl⟩
set_option maxRecDepth 20000 in
theorem cf_S_findFirsts : CF y_S_findFirsts c_S_findFirsts 6 none 0 := ⟨ws_2 89 rfl rfl, ws_1 3 rfl rfl, ⟨by decide +kernel, by decide +kernel⟩, by decide +kernel⟩
set_option maxRecDepth 20000 in
theorem ci_S_findFirsts : Cond.instanceMethod y_S_findFirsts ∈ WS ∧ Cond.selects y_S_findFirsts.cls y_S_findFirsts y_S_findFirsts ∈ WS := ⟨ws_2 88 rfl rfl, ws_p 9 rfl⟩
set_option maxRecDepth 20000 in
theorem cf_S_rowFirst : CF y_S_rowFirst c_S_rowFirst 6 (some .long) 1 := ⟨ws_2 93 rfl rfl, ws_1 3 rfl rfl, ⟨by decide +kernel, by decide +kernel⟩, by decide +kernel⟩
set_option maxRecDepth 20000 in
theorem ci_S_rowFirst : Cond.instanceMethod y_S_rowFirst ∈ WS ∧ Cond.selects y_S_rowFirst.cls y_S_rowFirst y_S_rowFirst ∈ WS := ⟨ws_2 92 rfl rfl, ws_p 10 rfl⟩
set_option maxRecDepth 20000 in
theorem cf_S_symbolFirst : CF y_S_symbolFirst c_S_symbolFirst 2 (some .long) 1 := ⟨ws_2 97 rfl rfl, ws_1 3 rfl rfl, ⟨by decide +kernel, by decide +kernel⟩, by decide +kernel⟩
set_option maxRecDepth 20000 in
theorem ci_S_symbolFirst : Cond.instanceMethod y_S_symbolFirst ∈ WS ∧ Cond.selects y_S_symbolFirst.cls y_S_symbolFirst y_S_symbolFirst ∈ WS := ⟨ws_2 96 rfl rfl, ws_p 11 rfl⟩
set_option maxRecDepth 20000 in
theorem cf_S_findFollowings : CF y_S_findFollowings c_S_findFollowings 5 none 0 := ⟨ws_2 101 rfl rfl, ws_1 3 rfl rfl, ⟨by decide +kernel, by decide +kernel⟩, by decide +kernel⟩
set_option maxRecDepth 20000 in
theorem ci_S_findFollowings : Cond.instanceMethod y_S_findFollowings ∈ WS ∧ Cond.selects y_S_findFollowings.cls y_S_findFollowings y_S_findFollowings ∈ WS := ⟨ws_2 100 rfl rfl, ws_p 12 rfl⟩
set_option maxRecDepth 20000 in
theorem cf_S_widenFollowings : CF y_S_widenFollowings c_S_widenFollowings 10 (some .boolean) 2 := ⟨ws_2 106 rfl rfl, ws_1 3 rfl rfl, ⟨by decide +kernel, by decide +kernel⟩, by decide +kernel⟩
set_option maxRecDepth 20000 in
theorem ci_S_widenFollowings : Cond.instanceMethod y_S_widenFollowings ∈ WS ∧ Cond.selects y_S_widenFollowings.cls y_S_widenFollowings y_S_widenFollowings ∈ WS := ⟨ws_2 105 rfl rfl, ws_p 13 rfl⟩
set_option maxRecDepth 20000 in
theorem cf_T_init : CF y_T_init c_T_init 1 none 0 := ⟨ws_1 202 rfl rfl, ws_1 8 rfl rfl, ⟨by decide +kernel, by decide +kernel⟩, by decide +kernel⟩
set_option maxRecDepth 20000 in
theorem ci_T_init : Cond.instanceMethod y_T_init ∈ WS := ws_1 201 rfl rfl
set_option maxRecDepth 20000 in
theorem cf_T_empty : CF y_T_empty c_T_empty 1 none 0 := ⟨ws_3 151 rfl rfl, ws_1 8 rfl rfl, ⟨by decide +kernel, by decide +kernel⟩, by decide +kernel⟩
set_option maxRecDepth 20000 in
theorem ci_T_empty : Cond.instanceMethod y_T_empty ∈ WS ∧ Cond.selects y_T_empty.cls y_T_empty y_T_empty ∈ WS := ⟨ws_3 149 rfl rfl, ws_3 150 rfl rfl⟩
set_option maxRecDepth 20000 in
theorem cf_T_size : CF y_T_size c_T_size 1 (some .int) 0 := ⟨ws_2 127 rfl rfl, ws_1 8 rfl rfl, ⟨by decide +kernel, by decide +kernel⟩, by decide +kernel⟩
set_option maxRecDepth 20000 in
theorem ci_T_size : Cond.instanceMethod y_T_size ∈ WS ∧ Cond.selects y_T_size.cls y_T_size y_T_size ∈ WS := ⟨ws_2 125 rfl rfl, ws_2 126 rfl rfl⟩
set_option maxRecDepth 20000 in
theorem cf_T_fact : CF y_T_fact c_T_fact 3 (some .int) 2 := ⟨ws_4 88 rfl rfl, ws_1 8 rfl rfl, ⟨by decide +kernel, by decide +kernel⟩, by decide +kernel⟩
set_option maxRecDepth 20000 in
theorem ci_T_fact : Cond.instanceMethod y_T_fact ∈ WS ∧ Cond.selects y_T_fact.cls y_T_fact y_T_fact ∈ WS := ⟨ws_4 86 rfl rfl, ws_4 87 rfl rfl⟩
set_option maxRecDepth 20000 in
theorem cf_T_add : CF y_T_add c_T_add 5 (some .int) 3 := ⟨ws_3 230 rfl rfl, ws_1 8 rfl rfl, ⟨by decide +kernel, by decide +kernel⟩, by decide +kernel⟩
set_option maxRecDepth 20000 in
theorem ci_T_add : Cond.instanceMethod y_T_add ∈ WS ∧ Cond.selects y_T_add.cls y_T_add y_T_add ∈ WS := ⟨ws_3 228 rfl rfl, ws_3 229 rfl rfl⟩
set_option maxRecDepth 20000 in
theorem cf_T_choose : CF y_T_choose c_T_choose 7 none 5 := ⟨ws_4 1 rfl rfl, ws_1 8 rfl rfl, ⟨by decide +kernel, by decide +kernel⟩, by decide +kernel⟩
set_option maxRecDepth 20000 in
theorem ci_T_choose : Cond.instanceMethod y_T_choose ∈ WS ∧ Cond.selects y_T_choose.cls y_T_choose y_T_choose ∈ WS := ⟨ws_3 239 rfl rfl, ws_4 0 rfl rfl⟩
set_option maxRecDepth 20000 in
theorem cf_T_findEnds : CF y_T_findEnds c_T_findEnds 5 none 0 := ⟨ws_4 27 rfl rfl, ws_1 8 rfl rfl, ⟨by decide +kernel, by decide +kernel⟩, by decide +kernel⟩
set_option maxRecDepth 20000 in
theorem ci_T_findEnds : Cond.instanceMethod y_T_findEnds ∈ WS ∧ Cond.selects y_T_findEnds.cls y_T_findEnds y_T_findEnds ∈ WS := ⟨ws_4 25 rfl rfl, ws_4 26 rfl rfl⟩
set_option maxRecDepth 20000 in
theorem cf_K_init : CF y_K_init c_K_init 4 none 3 := ⟨ws_1 172 rfl rfl, ws_1 7 rfl rfl, ⟨by decide +kernel, by decide +kernel⟩, by decide +kernel⟩
set_option maxRecDepth 20000 in
theorem ci_K_init : Cond.instanceMethod y_K_init ∈ WS := ws_1 171 rfl rfl
set_option maxRecDepth 20000 in
theorem cf_K_derive : CF y_K_derive c_K_derive 4 (some .boolean) 1 := ⟨ws_3 155 rfl rfl, ws_1 7 rfl rfl, ⟨by decide +kernel, by decide +kernel⟩, by decide +kernel⟩
set_option maxRecDepth 20000 in
theorem ci_K_derive : Cond.instanceMethod y_K_derive ∈ WS ∧ Cond.selects y_K_derive.cls y_K_derive y_K_derive ∈ WS := ⟨ws_3 153 rfl rfl, ws_3 154 rfl rfl⟩
set_option maxRecDepth 20000 in
theorem cf_K_replace : CF y_K_replace c_K_replace 8 (some .boolean) 3 := ⟨ws_3 194 rfl rfl, ws_1 7 rfl rfl, ⟨by decide +kernel, by decide +kernel⟩, by decide +kernel⟩
set_option maxRecDepth 20000 in
theorem ci_K_replace : Cond.instanceMethod y_K_replace ∈ WS ∧ Cond.selects y_K_replace.cls y_K_replace y_K_replace ∈ WS := ⟨ws_3 193 rfl rfl, ws_p 25 rfl⟩
set_option maxRecDepth 20000 in
theorem cf_K_firstFitting : CF y_K_firstFitting c_K_firstFitting 4 (some .int) 1 := ⟨ws_3 198 rfl rfl, ws_1 7 rfl rfl, ⟨by decide +kernel, by decide +kernel⟩, by decide +kernel⟩
set_option maxRecDepth 20000 in
theorem ci_K_firstFitting : Cond.instanceMethod y_K_firstFitting ∈ WS ∧ Cond.selects y_K_firstFitting.cls y_K_firstFitting y_K_firstFitting ∈ WS := ⟨ws_3 197 rfl rfl, ws_p 26 rfl⟩
set_option maxRecDepth 20000 in
theorem cf_K_look : CF y_K_look c_K_look 5 (some .int) 2 := ⟨ws_3 234 rfl rfl, ws_1 7 rfl rfl, ⟨by decide +kernel, by decide +kernel⟩, by decide +kernel⟩
set_option maxRecDepth 20000 in
theorem ci_K_look : Cond.instanceMethod y_K_look ∈ WS ∧ Cond.selects y_K_look.cls y_K_look y_K_look ∈ WS := ⟨ws_3 233 rfl rfl, ws_p 29 rfl⟩
set_option maxRecDepth 20000 in
theorem cf_K_reachOfRow : CF y_K_reachOfRow c_K_reachOfRow 4 (some .int) 1 := ⟨ws_3 204 rfl rfl, ws_1 7 rfl rfl, ⟨by decide +kernel, by decide +kernel⟩, by decide +kernel⟩
set_option maxRecDepth 20000 in
theorem ci_K_reachOfRow : Cond.instanceMethod y_K_reachOfRow ∈ WS ∧ Cond.selects y_K_reachOfRow.cls y_K_reachOfRow y_K_reachOfRow ∈ WS := ⟨ws_3 203 rfl rfl, ws_p 27 rfl⟩
set_option maxRecDepth 20000 in
theorem cf_K_farthest : CF y_K_farthest c_K_farthest 8 (some .int) 4 := ⟨ws_3 217 rfl rfl, ws_1 7 rfl rfl, ⟨by decide +kernel, by decide +kernel⟩, by decide +kernel⟩
set_option maxRecDepth 20000 in
theorem ci_K_farthest : Cond.instanceMethod y_K_farthest ∈ WS ∧ Cond.selects y_K_farthest.cls y_K_farthest y_K_farthest ∈ WS := ⟨ws_3 216 rfl rfl, ws_p 28 rfl⟩
set_option maxRecDepth 20000 in
theorem cf_K_layBottom : CF y_K_layBottom c_K_layBottom 3 none 0 := ⟨ws_3 160 rfl rfl, ws_1 7 rfl rfl, ⟨by decide +kernel, by decide +kernel⟩, by decide +kernel⟩
set_option maxRecDepth 20000 in
theorem ci_K_layBottom : Cond.instanceMethod y_K_layBottom ∈ WS ∧ Cond.selects y_K_layBottom.cls y_K_layBottom y_K_layBottom ∈ WS := ⟨ws_3 159 rfl rfl, ws_p 22 rfl⟩
set_option maxRecDepth 20000 in
theorem cf_K_layRow : CF y_K_layRow c_K_layRow 4 none 2 := ⟨ws_4 5 rfl rfl, ws_1 7 rfl rfl, ⟨by decide +kernel, by decide +kernel⟩, by decide +kernel⟩
set_option maxRecDepth 20000 in
theorem ci_K_layRow : Cond.instanceMethod y_K_layRow ∈ WS ∧ Cond.selects y_K_layRow.cls y_K_layRow y_K_layRow ∈ WS := ⟨ws_4 4 rfl rfl, ws_p 30 rfl⟩
set_option maxRecDepth 20000 in
theorem cf_K_lay : CF y_K_lay c_K_lay 3 none 2 := ⟨ws_3 188 rfl rfl, ws_1 7 rfl rfl, ⟨by decide +kernel, by decide +kernel⟩, by decide +kernel⟩
set_option maxRecDepth 20000 in
theorem ci_K_lay : Cond.instanceMethod y_K_lay ∈ WS ∧ Cond.selects y_K_lay.cls y_K_lay y_K_lay ∈ WS := ⟨ws_3 187 rfl rfl, ws_p 24 rfl⟩
set_option maxRecDepth 20000 in
theorem cf_K_makeRoom : CF y_K_makeRoom c_K_makeRoom 1 none 0 := ⟨ws_3 164 rfl rfl, ws_1 7 rfl rfl, ⟨by decide +kernel, by decide +kernel⟩, by decide +kernel⟩
set_option maxRecDepth 20000 in
theorem ci_K_makeRoom : Cond.instanceMethod y_K_makeRoom ∈ WS ∧ Cond.selects y_K_makeRoom.cls y_K_makeRoom y_K_makeRoom ∈ WS := ⟨ws_3 163 rfl rfl, ws_p 23 rfl⟩
set_option maxRecDepth 20000 in
theorem cf_K_findReaches : CF y_K_findReaches c_K_findReaches 6 none 0 := ⟨ws_4 10 rfl rfl, ws_1 7 rfl rfl, ⟨by decide +kernel, by decide +kernel⟩, by decide +kernel⟩
set_option maxRecDepth 20000 in
theorem ci_K_findReaches : Cond.instanceMethod y_K_findReaches ∈ WS ∧ Cond.selects y_K_findReaches.cls y_K_findReaches y_K_findReaches ∈ WS := ⟨ws_4 9 rfl rfl, ws_p 31 rfl⟩
set_option maxRecDepth 20000 in
theorem cf_K_reachOfToken : CF y_K_reachOfToken c_K_reachOfToken 5 (some .int) 3 := ⟨ws_4 14 rfl rfl, ws_1 7 rfl rfl, ⟨by decide +kernel, by decide +kernel⟩, by decide +kernel⟩
set_option maxRecDepth 20000 in
theorem ci_K_reachOfToken : Cond.instanceMethod y_K_reachOfToken ∈ WS ∧ Cond.selects y_K_reachOfToken.cls y_K_reachOfToken y_K_reachOfToken ∈ WS := ⟨ws_4 13 rfl rfl, ws_p 32 rfl⟩
set_option maxRecDepth 20000 in
theorem cf_Y_init : CF y_Y_init c_Y_init 5 none 4 := ⟨ws_1 146 rfl rfl, ws_1 6 rfl rfl, ⟨by decide +kernel, by decide +kernel⟩, by decide +kernel⟩
set_option maxRecDepth 20000 in
theorem ci_Y_init : Cond.instanceMethod y_Y_init ∈ WS := ws_1 145 rfl rfl
set_option maxRecDepth 20000 in
theorem cf_Y_ofWholeInput : CF y_Y_ofWholeInput c_Y_ofWholeInput 3 (some .int) 0 := ⟨ws_4 32 rfl rfl, ws_1 6 rfl rfl, ⟨by decide +kernel, by decide +kernel⟩, by decide +kernel⟩
set_option maxRecDepth 20000 in
theorem ci_Y_ofWholeInput : Cond.instanceMethod y_Y_ofWholeInput ∈ WS ∧ Cond.selects y_Y_ofWholeInput.cls y_Y_ofWholeInput y_Y_ofWholeInput ∈ WS := ⟨ws_4 30 rfl rfl, ws_4 31 rfl rfl⟩
set_option maxRecDepth 20000 in
theorem cf_Y_at : CF y_Y_at c_Y_at 3 (some .int) 3 := ⟨ws_4 42 rfl rfl, ws_1 6 rfl rfl, ⟨by decide +kernel, by decide +kernel⟩, by decide +kernel⟩
set_option maxRecDepth 20000 in
theorem ci_Y_at : Cond.static y_Y_at ∈ WS := ws_4 41 rfl rfl
set_option maxRecDepth 20000 in
theorem cf_Y_fillRule : CF y_Y_fillRule c_Y_fillRule 5 none 2 := ⟨ws_4 39 rfl rfl, ws_1 6 rfl rfl, ⟨by decide +kernel, by decide +kernel⟩, by decide +kernel⟩
set_option maxRecDepth 20000 in
theorem ci_Y_fillRule : Cond.instanceMethod y_Y_fillRule ∈ WS ∧ Cond.selects y_Y_fillRule.cls y_Y_fillRule y_Y_fillRule ∈ WS := ⟨ws_4 38 rfl rfl, ws_p 33 rfl⟩
set_option maxRecDepth 20000 in
theorem cf_Y_addRow : CF y_Y_addRow c_Y_addRow 5 none 2 := ⟨ws_4 75 rfl rfl, ws_1 6 rfl rfl, ⟨by decide +kernel, by decide +kernel⟩, by decide +kernel⟩
set_option maxRecDepth 20000 in
theorem ci_Y_addRow : Cond.instanceMethod y_Y_addRow ∈ WS ∧ Cond.selects y_Y_addRow.cls y_Y_addRow y_Y_addRow ∈ WS := ⟨ws_4 74 rfl rfl, ws_p 38 rfl⟩
set_option maxRecDepth 20000 in
theorem cf_Y_readRow : CF y_Y_readRow c_Y_readRow 5 none 2 := ⟨ws_4 50 rfl rfl, ws_1 6 rfl rfl, ⟨by decide +kernel, by decide +kernel⟩, by decide +kernel⟩
set_option maxRecDepth 20000 in
theorem ci_Y_readRow : Cond.instanceMethod y_Y_readRow ∈ WS ∧ Cond.selects y_Y_readRow.cls y_Y_readRow y_Y_readRow ∈ WS := ⟨ws_4 49 rfl rfl, ws_p 34 rfl⟩
set_option maxRecDepth 20000 in
theorem cf_Y_readToken : CF y_Y_readToken c_Y_readToken 4 none 2 := ⟨ws_4 57 rfl rfl, ws_1 6 rfl rfl, ⟨by decide +kernel, by decide +kernel⟩, by decide +kernel⟩
set_option maxRecDepth 20000 in
theorem ci_Y_readToken : Cond.instanceMethod y_Y_readToken ∈ WS ∧ Cond.selects y_Y_readToken.cls y_Y_readToken y_Y_readToken ∈ WS := ⟨ws_4 56 rfl rfl, ws_p 35 rfl⟩
set_option maxRecDepth 20000 in
theorem cf_Y_readRule : CF y_Y_readRule c_Y_readRule 6 none 2 := ⟨ws_4 63 rfl rfl, ws_1 6 rfl rfl, ⟨by decide +kernel, by decide +kernel⟩, by decide +kernel⟩
set_option maxRecDepth 20000 in
theorem ci_Y_readRule : Cond.instanceMethod y_Y_readRule ∈ WS ∧ Cond.selects y_Y_readRule.cls y_Y_readRule y_Y_readRule ∈ WS := ⟨ws_4 62 rfl rfl, ws_p 36 rfl⟩
set_option maxRecDepth 20000 in
theorem cf_Y_spread : CF y_Y_spread c_Y_spread 8 none 3 := ⟨ws_4 67 rfl rfl, ws_1 6 rfl rfl, ⟨by decide +kernel, by decide +kernel⟩, by decide +kernel⟩
set_option maxRecDepth 20000 in
theorem ci_Y_spread : Cond.instanceMethod y_Y_spread ∈ WS ∧ Cond.selects y_Y_spread.cls y_Y_spread y_Y_spread ∈ WS := ⟨ws_4 66 rfl rfl, ws_p 37 rfl⟩
set_option maxRecDepth 20000 in
theorem ml_L_65 : Cond.methodLink "FirstTreesLaw" 65 y_F_init ∈ WS := ws_1 22 rfl rfl
set_option maxRecDepth 20000 in
theorem ml_F_3 : Cond.methodLink "FirstTrees" 3 ⟨"java/lang/Object", "<init>", "()V"⟩ ∈ WS := ws_1 25 rfl rfl
set_option maxRecDepth 20000 in
theorem ml_G_3 : Cond.methodLink "FirstTrees$Grammar" 3 ⟨"java/lang/Object", "<init>", "()V"⟩ ∈ WS := ws_1 33 rfl rfl
set_option maxRecDepth 20000 in
theorem ml_F_18 : Cond.methodLink "FirstTrees" 18 y_S_init ∈ WS := ws_1 50 rfl rfl
set_option maxRecDepth 20000 in
theorem ml_S_3 : Cond.methodLink "FirstTrees$Study" 3 ⟨"java/lang/Object", "<init>", "()V"⟩ ∈ WS := ws_1 53 rfl rfl
set_option maxRecDepth 20000 in
theorem ml_I_3 : Cond.methodLink "FirstTrees$Input" 3 ⟨"java/lang/Object", "<init>", "()V"⟩ ∈ WS := ws_1 88 rfl rfl
set_option maxRecDepth 20000 in
theorem ml_F_34 : Cond.methodLink "FirstTrees" 34 y_C_init ∈ WS := ws_1 98 rfl rfl
set_option maxRecDepth 20000 in
theorem ml_C_3 : Cond.methodLink "FirstTrees$Chart" 3 ⟨"java/lang/Object", "<init>", "()V"⟩ ∈ WS := ws_1 101 rfl rfl
set_option maxRecDepth 20000 in
theorem ml_F_43 : Cond.methodLink "FirstTrees" 43 y_Y_init ∈ WS := ws_1 144 rfl rfl
set_option maxRecDepth 20000 in
theorem ml_Y_3 : Cond.methodLink "FirstTrees$Ways" 3 ⟨"java/lang/Object", "<init>", "()V"⟩ ∈ WS := ws_1 147 rfl rfl
set_option maxRecDepth 20000 in
theorem ml_F_52 : Cond.methodLink "FirstTrees" 52 y_K_init ∈ WS := ws_1 170 rfl rfl
set_option maxRecDepth 20000 in
theorem ml_K_3 : Cond.methodLink "FirstTrees$Walk" 3 ⟨"java/lang/Object", "<init>", "()V"⟩ ∈ WS := ws_1 173 rfl rfl
set_option maxRecDepth 20000 in
theorem ml_T_3 : Cond.methodLink "FirstTrees$Tree" 3 ⟨"java/lang/Object", "<init>", "()V"⟩ ∈ WS := ws_1 203 rfl rfl
set_option maxRecDepth 20000 in
theorem ml_L_86 : Cond.methodLink "FirstTreesLaw" 86 y_F_clear ∈ WS := ws_1 236 rfl rfl
set_option maxRecDepth 20000 in
theorem ml_F_80 : Cond.methodLink "FirstTrees" 80 y_S_outdate ∈ WS := ws_2 0 rfl rfl
set_option maxRecDepth 20000 in
theorem ml_F_121 : Cond.methodLink "FirstTrees" 121 y_G_loseRules ∈ WS := ws_2 4 rfl rfl
set_option maxRecDepth 20000 in
theorem ml_L_90 : Cond.methodLink "FirstTreesLaw" 90 y_F_fault ∈ WS := ws_2 8 rfl rfl
set_option maxRecDepth 20000 in
theorem ml_F_124 : Cond.methodLink "FirstTrees" 124 y_S_bringUpToDate ∈ WS := ws_2 12 rfl rfl
set_option maxRecDepth 20000 in
theorem ml_S_33 : Cond.methodLink "FirstTrees$Study" 33 y_S_findNothing ∈ WS := ws_2 16 rfl rfl
set_option maxRecDepth 20000 in
theorem ml_S_83 : Cond.methodLink "FirstTrees$Study" 83 y_G_rules ∈ WS := ws_2 20 rfl rfl
set_option maxRecDepth 20000 in
theorem ml_S_65 : Cond.methodLink "FirstTrees$Study" 65 y_G_alternatives ∈ WS := ws_2 24 rfl rfl
set_option maxRecDepth 20000 in
theorem ml_S_71 : Cond.methodLink "FirstTrees$Study" 71 y_G_row ∈ WS := ws_2 28 rfl rfl
set_option maxRecDepth 20000 in
theorem ml_S_79 : Cond.methodLink "FirstTrees$Study" 79 y_S_rowIsNothing ∈ WS := ws_2 31 rfl rfl
set_option maxRecDepth 20000 in
theorem ml_S_87 : Cond.methodLink "FirstTrees$Study" 87 y_G_length ∈ WS := ws_2 35 rfl rfl
set_option maxRecDepth 20000 in
theorem ml_S_90 : Cond.methodLink "FirstTrees$Study" 90 y_G_symbolAt ∈ WS := ws_2 39 rfl rfl
set_option maxRecDepth 20000 in
theorem ml_S_93 : Cond.methodLink "FirstTrees$Study" 93 y_S_symbolIsNothing ∈ WS := ws_2 43 rfl rfl
set_option maxRecDepth 20000 in
theorem ml_S_96 : Cond.methodLink "FirstTrees$Study" 96 y_G_isToken ∈ WS := ws_2 47 rfl rfl
set_option maxRecDepth 20000 in
theorem ml_S_99 : Cond.methodLink "FirstTrees$Study" 99 y_G_ruleOf ∈ WS := ws_2 50 rfl rfl
set_option maxRecDepth 20000 in
theorem ml_S_36 : Cond.methodLink "FirstTrees$Study" 36 y_S_findLeft ∈ WS := ws_2 56 rfl rfl
set_option maxRecDepth 20000 in
theorem ml_S_102 : Cond.methodLink "FirstTrees$Study" 102 y_S_rulesAtLeft ∈ WS := ws_2 60 rfl rfl
set_option maxRecDepth 20000 in
theorem ml_S_39 : Cond.methodLink "FirstTrees$Study" 39 y_S_findFault ∈ WS := ws_2 64 rfl rfl
set_option maxRecDepth 20000 in
theorem ml_S_105 : Cond.methodLink "FirstTrees$Study" 105 y_S_hasFault ∈ WS := ws_2 68 rfl rfl
set_option maxRecDepth 20000 in
theorem ml_S_109 : Cond.methodLink "FirstTrees$Study" 109 y_S_hasSymbolNotThere ∈ WS := ws_2 72 rfl rfl
set_option maxRecDepth 20000 in
theorem ml_S_46 : Cond.methodLink "FirstTrees$Study" 46 y_S_findOrder ∈ WS := ws_2 76 rfl rfl
set_option maxRecDepth 20000 in
theorem ml_S_112 : Cond.methodLink "FirstTrees$Study" 112 ⟨"java/lang/Integer", "bitCount", "(I)I"⟩ ∈ WS := ws_2 80 rfl rfl
set_option maxRecDepth 20000 in
theorem ml_S_49 : Cond.methodLink "FirstTrees$Study" 49 y_S_findFirsts ∈ WS := ws_2 86 rfl rfl
set_option maxRecDepth 20000 in
theorem ml_S_75 : Cond.methodLink "FirstTrees$Study" 75 y_S_rowFirst ∈ WS := ws_2 90 rfl rfl
set_option maxRecDepth 20000 in
theorem ml_S_117 : Cond.methodLink "FirstTrees$Study" 117 y_S_symbolFirst ∈ WS := ws_2 94 rfl rfl
set_option maxRecDepth 20000 in
theorem ml_S_52 : Cond.methodLink "FirstTrees$Study" 52 y_S_findFollowings ∈ WS := ws_2 98 rfl rfl
set_option maxRecDepth 20000 in
theorem ml_S_122 : Cond.methodLink "FirstTrees$Study" 122 y_S_widenFollowings ∈ WS := ws_2 103 rfl rfl
set_option maxRecDepth 20000 in
theorem ml_F_127 : Cond.methodLink "FirstTrees" 127 y_S_faultKind ∈ WS := ws_2 108 rfl rfl
set_option maxRecDepth 20000 in
theorem ml_L_94 : Cond.methodLink "FirstTreesLaw" 94 y_F_faulty ∈ WS := ws_2 112 rfl rfl
set_option maxRecDepth 20000 in
theorem ml_F_130 : Cond.methodLink "FirstTrees" 130 y_S_faultyRule ∈ WS := ws_2 116 rfl rfl
set_option maxRecDepth 20000 in
theorem ml_L_108 : Cond.methodLink "FirstTreesLaw" 108 y_F_nodes ∈ WS := ws_2 120 rfl rfl
set_option maxRecDepth 20000 in
theorem ml_F_170 : Cond.methodLink "FirstTrees" 170 y_T_size ∈ WS := ws_2 124 rfl rfl
set_option maxRecDepth 20000 in
theorem ml_L_69 : Cond.methodLink "FirstTreesLaw" 69 y_L_rule ∈ WS := ws_2 128 rfl rfl
set_option maxRecDepth 20000 in
theorem ml_L_7 : Cond.methodLink "FirstTreesLaw" 7 y_F_rule ∈ WS := ws_2 132 rfl rfl
set_option maxRecDepth 20000 in
theorem ml_F_69 : Cond.methodLink "FirstTrees" 69 y_G_rules ∈ WS := ws_2 136 rfl rfl
set_option maxRecDepth 20000 in
theorem ml_F_77 : Cond.methodLink "FirstTrees" 77 ⟨"java/lang/UnsupportedOperationException", "<init>", "(Ljava/lang/String;)V"⟩ ∈ WS := ws_2 180 rfl rfl
set_option maxRecDepth 20000 in
theorem ml_F_83 : Cond.methodLink "FirstTrees" 83 y_G_addRule ∈ WS := ws_2 206 rfl rfl
set_option maxRecDepth 20000 in
theorem ml_L_78 : Cond.methodLink "FirstTreesLaw" 78 y_L_alternative ∈ WS := ws_2 210 rfl rfl
set_option maxRecDepth 20000 in
theorem ml_L_15 : Cond.methodLink "FirstTreesLaw" 15 y_F_alternative ∈ WS := ws_2 214 rfl rfl
set_option maxRecDepth 20000 in
theorem ml_F_86 : Cond.methodLink "FirstTrees" 86 y_F_mustBeRule ∈ WS := ws_2 218 rfl rfl
set_option maxRecDepth 20000 in
theorem ml_F_175 : Cond.methodLink "FirstTrees" 175 ⟨"java/lang/IndexOutOfBoundsException", "<init>", "(Ljava/lang/String;)V"⟩ ∈ WS := ws_2 232 rfl rfl
set_option maxRecDepth 20000 in
theorem ml_F_90 : Cond.methodLink "FirstTrees" 90 y_G_alternatives ∈ WS := ws_2 238 rfl rfl
set_option maxRecDepth 20000 in
theorem ml_F_96 : Cond.methodLink "FirstTrees" 96 y_G_addAlternative ∈ WS := ws_3 0 rfl rfl
set_option maxRecDepth 20000 in
theorem ml_G_25 : Cond.methodLink "FirstTrees$Grammar" 25 y_G_latestRow ∈ WS := ws_3 4 rfl rfl
set_option maxRecDepth 20000 in
theorem ml_G_29 : Cond.methodLink "FirstTrees$Grammar" 29 y_G_row ∈ WS := ws_3 8 rfl rfl
set_option maxRecDepth 20000 in
theorem ml_L_82 : Cond.methodLink "FirstTreesLaw" 82 y_L_symbol ∈ WS := ws_3 9 rfl rfl
set_option maxRecDepth 20000 in
theorem ml_L_21 : Cond.methodLink "FirstTreesLaw" 21 y_F_symbol ∈ WS := ws_3 14 rfl rfl
set_option maxRecDepth 20000 in
theorem ml_F_103 : Cond.methodLink "FirstTrees" 103 ⟨"java/lang/IllegalArgumentException", "<init>", "(Ljava/lang/String;)V"⟩ ∈ WS := ws_3 28 rfl rfl
set_option maxRecDepth 20000 in
theorem ml_F_108 : Cond.methodLink "FirstTrees" 108 ⟨"java/lang/IllegalStateException", "<init>", "(Ljava/lang/String;)V"⟩ ∈ WS := ws_3 44 rfl rfl
set_option maxRecDepth 20000 in
theorem ml_F_109 : Cond.methodLink "FirstTrees" 109 y_G_latestRow ∈ WS := ws_3 50 rfl rfl
set_option maxRecDepth 20000 in
theorem ml_F_112 : Cond.methodLink "FirstTrees" 112 y_G_length ∈ WS := ws_3 51 rfl rfl
set_option maxRecDepth 20000 in
theorem ml_F_117 : Cond.methodLink "FirstTrees" 117 y_G_addSymbol ∈ WS := ws_3 53 rfl rfl
set_option maxRecDepth 20000 in
theorem ml_L_98 : Cond.methodLink "FirstTreesLaw" 98 y_L_token ∈ WS := ws_3 57 rfl rfl
set_option maxRecDepth 20000 in
theorem ml_L_29 : Cond.methodLink "FirstTreesLaw" 29 y_F_token ∈ WS := ws_3 60 rfl rfl
set_option maxRecDepth 20000 in
theorem ml_F_135 : Cond.methodLink "FirstTrees" 135 y_I_size ∈ WS := ws_3 65 rfl rfl
set_option maxRecDepth 20000 in
theorem ml_F_140 : Cond.methodLink "FirstTrees" 140 y_I_add ∈ WS := ws_3 70 rfl rfl
set_option maxRecDepth 20000 in
theorem ml_L_101 : Cond.methodLink "FirstTreesLaw" 101 y_L_keep ∈ WS := ws_3 74 rfl rfl
set_option maxRecDepth 20000 in
theorem ml_L_32 : Cond.methodLink "FirstTreesLaw" 32 y_F_keep ∈ WS := ws_3 77 rfl rfl
set_option maxRecDepth 20000 in
theorem ml_F_145 : Cond.methodLink "FirstTrees" 145 y_I_cut ∈ WS := ws_3 82 rfl rfl
set_option maxRecDepth 20000 in
theorem ml_L_105 : Cond.methodLink "FirstTreesLaw" 105 y_L_parse ∈ WS := ws_3 86 rfl rfl
set_option maxRecDepth 20000 in
theorem ml_L_36 : Cond.methodLink "FirstTreesLaw" 36 y_F_parse ∈ WS := ws_3 89 rfl rfl
set_option maxRecDepth 20000 in
theorem ml_F_148 : Cond.methodLink "FirstTrees" 148 y_F_mustBeRight ∈ WS := ws_3 93 rfl rfl
set_option maxRecDepth 20000 in
theorem ml_F_151 : Cond.methodLink "FirstTrees" 151 y_C_fill ∈ WS := ws_3 98 rfl rfl
set_option maxRecDepth 20000 in
theorem ml_C_47 : Cond.methodLink "FirstTrees$Chart" 47 y_C_findPlaces ∈ WS := ws_3 102 rfl rfl
set_option maxRecDepth 20000 in
theorem ml_C_74 : Cond.methodLink "FirstTrees$Chart" 74 y_I_tokenAt ∈ WS := ws_3 106 rfl rfl
set_option maxRecDepth 20000 in
theorem ml_C_50 : Cond.methodLink "FirstTrees$Chart" 50 y_G_rules ∈ WS := ws_3 110 rfl rfl
set_option maxRecDepth 20000 in
theorem ml_C_56 : Cond.methodLink "FirstTrees$Chart" 56 y_S_inOrder ∈ WS := ws_3 111 rfl rfl
set_option maxRecDepth 20000 in
theorem ml_C_62 : Cond.methodLink "FirstTrees$Chart" 62 y_C_fillRule ∈ WS := ws_3 115 rfl rfl
set_option maxRecDepth 20000 in
theorem ml_C_79 : Cond.methodLink "FirstTrees$Chart" 79 y_G_alternatives ∈ WS := ws_3 119 rfl rfl
set_option maxRecDepth 20000 in
theorem ml_C_82 : Cond.methodLink "FirstTrees$Chart" 82 y_G_row ∈ WS := ws_3 120 rfl rfl
set_option maxRecDepth 20000 in
theorem ml_C_85 : Cond.methodLink "FirstTrees$Chart" 85 y_C_readRow ∈ WS := ws_3 121 rfl rfl
set_option maxRecDepth 20000 in
theorem ml_C_103 : Cond.methodLink "FirstTrees$Chart" 103 y_G_length ∈ WS := ws_3 125 rfl rfl
set_option maxRecDepth 20000 in
theorem ml_C_106 : Cond.methodLink "FirstTrees$Chart" 106 y_G_symbolAt ∈ WS := ws_3 126 rfl rfl
set_option maxRecDepth 20000 in
theorem ml_C_109 : Cond.methodLink "FirstTrees$Chart" 109 y_G_isToken ∈ WS := ws_3 127 rfl rfl
set_option maxRecDepth 20000 in
theorem ml_C_113 : Cond.methodLink "FirstTrees$Chart" 113 y_C_readToken ∈ WS := ws_3 128 rfl rfl
set_option maxRecDepth 20000 in
theorem ml_C_117 : Cond.methodLink "FirstTrees$Chart" 117 y_G_ruleOf ∈ WS := ws_3 133 rfl rfl
set_option maxRecDepth 20000 in
theorem ml_C_120 : Cond.methodLink "FirstTrees$Chart" 120 y_C_readRule ∈ WS := ws_3 134 rfl rfl
set_option maxRecDepth 20000 in
theorem ml_C_66 : Cond.methodLink "FirstTrees$Chart" 66 y_C_at ∈ WS := ws_3 138 rfl rfl
set_option maxRecDepth 20000 in
theorem ml_C_95 : Cond.methodLink "FirstTrees$Chart" 95 ⟨"java/lang/Math", "max", "(II)I"⟩ ∈ WS := ws_3 141 rfl rfl
set_option maxRecDepth 20000 in
theorem ml_F_154 : Cond.methodLink "FirstTrees" 154 y_C_hasTree ∈ WS := ws_3 144 rfl rfl
set_option maxRecDepth 20000 in
theorem ml_F_158 : Cond.methodLink "FirstTrees" 158 y_T_empty ∈ WS := ws_3 148 rfl rfl
set_option maxRecDepth 20000 in
theorem ml_F_161 : Cond.methodLink "FirstTrees" 161 y_K_derive ∈ WS := ws_3 152 rfl rfl
set_option maxRecDepth 20000 in
theorem ml_K_29 : Cond.methodLink "FirstTrees$Walk" 29 y_T_empty ∈ WS := ws_3 156 rfl rfl
set_option maxRecDepth 20000 in
theorem ml_K_41 : Cond.methodLink "FirstTrees$Walk" 41 y_K_layBottom ∈ WS := ws_3 157 rfl rfl
set_option maxRecDepth 20000 in
theorem ml_K_143 : Cond.methodLink "FirstTrees$Walk" 143 y_K_makeRoom ∈ WS := ws_3 161 rfl rfl
set_option maxRecDepth 20000 in
theorem ml_P_3 : Cond.methodLink "FirstTrees$Pending" 3 ⟨"java/lang/Object", "<init>", "()V"⟩ ∈ WS := ws_3 169 rfl rfl
set_option maxRecDepth 20000 in
theorem ml_K_107 : Cond.methodLink "FirstTrees$Walk" 107 y_C_end ∈ WS := ws_3 181 rfl rfl
set_option maxRecDepth 20000 in
theorem ml_K_44 : Cond.methodLink "FirstTrees$Walk" 44 y_K_lay ∈ WS := ws_3 185 rfl rfl
set_option maxRecDepth 20000 in
theorem ml_K_54 : Cond.methodLink "FirstTrees$Walk" 54 y_G_isToken ∈ WS := ws_3 189 rfl rfl
set_option maxRecDepth 20000 in
theorem ml_K_60 : Cond.methodLink "FirstTrees$Walk" 60 y_G_ruleOf ∈ WS := ws_3 190 rfl rfl
set_option maxRecDepth 20000 in
theorem ml_K_67 : Cond.methodLink "FirstTrees$Walk" 67 y_K_replace ∈ WS := ws_3 191 rfl rfl
set_option maxRecDepth 20000 in
theorem ml_K_74 : Cond.methodLink "FirstTrees$Walk" 74 y_K_firstFitting ∈ WS := ws_3 195 rfl rfl
set_option maxRecDepth 20000 in
theorem ml_K_101 : Cond.methodLink "FirstTrees$Walk" 101 y_G_alternatives ∈ WS := ws_3 199 rfl rfl
set_option maxRecDepth 20000 in
theorem ml_K_77 : Cond.methodLink "FirstTrees$Walk" 77 y_G_row ∈ WS := ws_3 200 rfl rfl
set_option maxRecDepth 20000 in
theorem ml_K_104 : Cond.methodLink "FirstTrees$Walk" 104 y_K_reachOfRow ∈ WS := ws_3 201 rfl rfl
set_option maxRecDepth 20000 in
theorem ml_K_125 : Cond.methodLink "FirstTrees$Walk" 125 y_C_at ∈ WS := ws_3 205 rfl rfl
set_option maxRecDepth 20000 in
theorem ml_K_128 : Cond.methodLink "FirstTrees$Walk" 128 y_C_rowFar ∈ WS := ws_3 206 rfl rfl
set_option maxRecDepth 20000 in
theorem ml_K_131 : Cond.methodLink "FirstTrees$Walk" 131 y_C_rowFits ∈ WS := ws_3 210 rfl rfl
set_option maxRecDepth 20000 in
theorem ml_K_135 : Cond.methodLink "FirstTrees$Walk" 135 y_K_farthest ∈ WS := ws_3 214 rfl rfl
set_option maxRecDepth 20000 in
theorem ml_K_113 : Cond.methodLink "FirstTrees$Walk" 113 ⟨"java/lang/Math", "max", "(II)I"⟩ ∈ WS := ws_3 219 rfl rfl
set_option maxRecDepth 20000 in
theorem ml_K_81 : Cond.methodLink "FirstTrees$Walk" 81 y_G_rulesIn ∈ WS := ws_3 220 rfl rfl
set_option maxRecDepth 20000 in
theorem ml_G_33 : Cond.methodLink "FirstTrees$Grammar" 33 y_G_symbolAt ∈ WS := ws_3 224 rfl rfl
set_option maxRecDepth 20000 in
theorem ml_G_36 : Cond.methodLink "FirstTrees$Grammar" 36 y_G_isToken ∈ WS := ws_3 225 rfl rfl
set_option maxRecDepth 20000 in
theorem ml_K_84 : Cond.methodLink "FirstTrees$Walk" 84 y_G_length ∈ WS := ws_3 226 rfl rfl
set_option maxRecDepth 20000 in
theorem ml_K_87 : Cond.methodLink "FirstTrees$Walk" 87 y_T_add ∈ WS := ws_3 227 rfl rfl
set_option maxRecDepth 20000 in
theorem ml_K_91 : Cond.methodLink "FirstTrees$Walk" 91 y_K_look ∈ WS := ws_3 231 rfl rfl
set_option maxRecDepth 20000 in
theorem ml_K_118 : Cond.methodLink "FirstTrees$Walk" 118 ⟨"java/lang/Math", "min", "(II)I"⟩ ∈ WS := ws_3 235 rfl rfl
set_option maxRecDepth 20000 in
theorem ml_K_94 : Cond.methodLink "FirstTrees$Walk" 94 y_T_choose ∈ WS := ws_3 238 rfl rfl
set_option maxRecDepth 20000 in
theorem ml_K_98 : Cond.methodLink "FirstTrees$Walk" 98 y_K_layRow ∈ WS := ws_4 2 rfl rfl
set_option maxRecDepth 20000 in
theorem ml_K_146 : Cond.methodLink "FirstTrees$Walk" 146 y_G_symbolAt ∈ WS := ws_4 6 rfl rfl
set_option maxRecDepth 20000 in
theorem ml_K_149 : Cond.methodLink "FirstTrees$Walk" 149 y_K_findReaches ∈ WS := ws_4 7 rfl rfl
set_option maxRecDepth 20000 in
theorem ml_K_153 : Cond.methodLink "FirstTrees$Walk" 153 y_K_reachOfToken ∈ WS := ws_4 11 rfl rfl
set_option maxRecDepth 20000 in
theorem ml_K_163 : Cond.methodLink "FirstTrees$Walk" 163 y_I_tokenAt ∈ WS := ws_4 15 rfl rfl
set_option maxRecDepth 20000 in
theorem ml_K_157 : Cond.methodLink "FirstTrees$Walk" 157 y_C_ruleFar ∈ WS := ws_4 16 rfl rfl
set_option maxRecDepth 20000 in
theorem ml_K_160 : Cond.methodLink "FirstTrees$Walk" 160 y_C_ruleFits ∈ WS := ws_4 20 rfl rfl
set_option maxRecDepth 20000 in
theorem ml_K_71 : Cond.methodLink "FirstTrees$Walk" 71 y_T_findEnds ∈ WS := ws_4 24 rfl rfl
set_option maxRecDepth 20000 in
theorem ml_F_167 : Cond.methodLink "FirstTrees" 167 y_Y_ofWholeInput ∈ WS := ws_4 29 rfl rfl
set_option maxRecDepth 20000 in
theorem ml_Y_36 : Cond.methodLink "FirstTrees$Ways" 36 y_C_end ∈ WS := ws_4 33 rfl rfl
set_option maxRecDepth 20000 in
theorem ml_Y_42 : Cond.methodLink "FirstTrees$Ways" 42 y_G_rules ∈ WS := ws_4 34 rfl rfl
set_option maxRecDepth 20000 in
theorem ml_Y_47 : Cond.methodLink "FirstTrees$Ways" 47 y_S_inOrder ∈ WS := ws_4 35 rfl rfl
set_option maxRecDepth 20000 in
theorem ml_Y_53 : Cond.methodLink "FirstTrees$Ways" 53 y_Y_fillRule ∈ WS := ws_4 36 rfl rfl
set_option maxRecDepth 20000 in
theorem ml_Y_57 : Cond.methodLink "FirstTrees$Ways" 57 y_Y_at ∈ WS := ws_4 40 rfl rfl
set_option maxRecDepth 20000 in
theorem ml_Y_61 : Cond.methodLink "FirstTrees$Ways" 61 y_G_alternatives ∈ WS := ws_4 43 rfl rfl
set_option maxRecDepth 20000 in
theorem ml_Y_64 : Cond.methodLink "FirstTrees$Ways" 64 y_G_row ∈ WS := ws_4 44 rfl rfl
set_option maxRecDepth 20000 in
theorem ml_Y_68 : Cond.methodLink "FirstTrees$Ways" 68 y_C_at ∈ WS := ws_4 45 rfl rfl
set_option maxRecDepth 20000 in
theorem ml_Y_70 : Cond.methodLink "FirstTrees$Ways" 70 y_C_rowFits ∈ WS := ws_4 46 rfl rfl
set_option maxRecDepth 20000 in
theorem ml_Y_74 : Cond.methodLink "FirstTrees$Ways" 74 y_Y_readRow ∈ WS := ws_4 47 rfl rfl
set_option maxRecDepth 20000 in
theorem ml_Y_88 : Cond.methodLink "FirstTrees$Ways" 88 y_G_length ∈ WS := ws_4 51 rfl rfl
set_option maxRecDepth 20000 in
theorem ml_Y_91 : Cond.methodLink "FirstTrees$Ways" 91 y_G_symbolAt ∈ WS := ws_4 52 rfl rfl
set_option maxRecDepth 20000 in
theorem ml_Y_94 : Cond.methodLink "FirstTrees$Ways" 94 y_G_isToken ∈ WS := ws_4 53 rfl rfl
set_option maxRecDepth 20000 in
theorem ml_Y_98 : Cond.methodLink "FirstTrees$Ways" 98 y_Y_readToken ∈ WS := ws_4 54 rfl rfl
set_option maxRecDepth 20000 in
theorem ml_Y_107 : Cond.methodLink "FirstTrees$Ways" 107 y_I_tokenAt ∈ WS := ws_4 58 rfl rfl
set_option maxRecDepth 20000 in
theorem ml_Y_101 : Cond.methodLink "FirstTrees$Ways" 101 y_G_ruleOf ∈ WS := ws_4 59 rfl rfl
set_option maxRecDepth 20000 in
theorem ml_Y_104 : Cond.methodLink "FirstTrees$Ways" 104 y_Y_readRule ∈ WS := ws_4 60 rfl rfl
set_option maxRecDepth 20000 in
theorem ml_Y_112 : Cond.methodLink "FirstTrees$Ways" 112 y_Y_spread ∈ WS := ws_4 64 rfl rfl
set_option maxRecDepth 20000 in
theorem ml_Y_82 : Cond.methodLink "FirstTrees$Ways" 82 ⟨"java/lang/Math", "min", "(JJ)J"⟩ ∈ WS := ws_4 69 rfl rfl
set_option maxRecDepth 20000 in
theorem ml_Y_77 : Cond.methodLink "FirstTrees$Ways" 77 y_Y_addRow ∈ WS := ws_4 72 rfl rfl
set_option maxRecDepth 20000 in
theorem ml_L_112 : Cond.methodLink "FirstTreesLaw" 112 y_L_node ∈ WS := ws_4 76 rfl rfl
set_option maxRecDepth 20000 in
theorem ml_L_39 : Cond.methodLink "FirstTreesLaw" 39 y_F_node ∈ WS := ws_4 79 rfl rfl
set_option maxRecDepth 20000 in
theorem ml_F_178 : Cond.methodLink "FirstTrees" 178 y_T_fact ∈ WS := ws_4 85 rfl rfl
set_option maxRecDepth 20000 in
theorem ml_L_115 : Cond.methodLink "FirstTreesLaw" 115 y_L_reach ∈ WS := ws_4 89 rfl rfl
set_option maxRecDepth 20000 in
theorem ml_L_42 : Cond.methodLink "FirstTreesLaw" 42 y_F_reach ∈ WS := ws_4 92 rfl rfl
set_option maxRecDepth 20000 in
theorem ml_F_181 : Cond.methodLink "FirstTrees" 181 y_C_farOfAll ∈ WS := ws_4 96 rfl rfl
set_option maxRecDepth 20000 in
theorem ml_L_118 : Cond.methodLink "FirstTreesLaw" 118 y_L_expected ∈ WS := ws_4 100 rfl rfl
set_option maxRecDepth 20000 in
theorem ml_L_45 : Cond.methodLink "FirstTreesLaw" 45 y_F_expected ∈ WS := ws_4 103 rfl rfl
set_option maxRecDepth 20000 in
theorem ml_F_186 : Cond.methodLink "FirstTrees" 186 y_C_soonOfAll ∈ WS := ws_4 108 rfl rfl
set_option maxRecDepth 20000 in
theorem ml_L_121 : Cond.methodLink "FirstTreesLaw" 121 y_L_isNothing ∈ WS := ws_4 113 rfl rfl
set_option maxRecDepth 20000 in
theorem ml_L_49 : Cond.methodLink "FirstTreesLaw" 49 y_F_isNothing ∈ WS := ws_4 116 rfl rfl
set_option maxRecDepth 20000 in
theorem ml_F_192 : Cond.methodLink "FirstTrees" 192 y_S_ruleIsNothing ∈ WS := ws_4 120 rfl rfl
set_option maxRecDepth 20000 in
theorem ml_L_124 : Cond.methodLink "FirstTreesLaw" 124 y_L_first ∈ WS := ws_4 124 rfl rfl
set_option maxRecDepth 20000 in
theorem ml_L_53 : Cond.methodLink "FirstTreesLaw" 53 y_F_first ∈ WS := ws_4 127 rfl rfl
set_option maxRecDepth 20000 in
theorem ml_F_196 : Cond.methodLink "FirstTrees" 196 y_S_ruleFirst ∈ WS := ws_4 131 rfl rfl
set_option maxRecDepth 20000 in
theorem ml_L_127 : Cond.methodLink "FirstTreesLaw" 127 y_L_following ∈ WS := ws_4 135 rfl rfl
set_option maxRecDepth 20000 in
theorem ml_L_56 : Cond.methodLink "FirstTreesLaw" 56 y_F_following ∈ WS := ws_4 138 rfl rfl
set_option maxRecDepth 20000 in
theorem ml_F_200 : Cond.methodLink "FirstTrees" 200 y_S_ruleFollowing ∈ WS := ws_4 142 rfl rfl
set_option maxRecDepth 20000 in
theorem ml_L_130 : Cond.methodLink "FirstTreesLaw" 130 y_L_lets ∈ WS := ws_4 146 rfl rfl
set_option maxRecDepth 20000 in
theorem ml_L_59 : Cond.methodLink "FirstTreesLaw" 59 y_F_lets ∈ WS := ws_4 149 rfl rfl
set_option maxRecDepth 20000 in
theorem ml_F_203 : Cond.methodLink "FirstTrees" 203 y_S_letIn ∈ WS := ws_4 153 rfl rfl
set_option maxRecDepth 20000 in
theorem ml_L_133 : Cond.methodLink "FirstTreesLaw" 133 y_L_count ∈ WS := ws_4 157 rfl rfl
set_option maxRecDepth 20000 in
theorem ml_L_62 : Cond.methodLink "FirstTreesLaw" 62 y_F_count ∈ WS := ws_4 160 rfl rfl
set_option maxRecDepth 20000 in
theorem ml_L_68 : Cond.methodLink "FirstTreesLaw" 68 y_M_init ∈ WS := ws_4 167 rfl rfl
set_option maxRecDepth 20000 in
theorem ml_M_1 : Cond.methodLink "FirstTreesModel" 1 ⟨"java/lang/Object", "<init>", "()V"⟩ ∈ WS := ws_4 170 rfl rfl
set_option maxRecDepth 20000 in
theorem ml_L_75 : Cond.methodLink "FirstTreesLaw" 75 y_M_thrown ∈ WS := ws_5 18 rfl rfl
set_option maxRecDepth 20000 in
theorem ml_L_107 : Cond.methodLink "FirstTreesLaw" 107 y_M_parse ∈ WS := ws_5 22 rfl rfl
set_option maxRecDepth 20000 in
theorem ml_M_151 : Cond.methodLink "FirstTreesModel" 151 y_M_faultOf ∈ WS := ws_5 26 rfl rfl
set_option maxRecDepth 20000 in
theorem ml_M_77 : Cond.methodLink "FirstTreesModel" 77 y_M_sizeOf ∈ WS := ws_5 30 rfl rfl
set_option maxRecDepth 20000 in
theorem ml_M_81 : Cond.methodLink "FirstTreesModel" 81 y_M_symbolAt ∈ WS := ws_5 34 rfl rfl
set_option maxRecDepth 20000 in
theorem ml_M_99 : Cond.methodLink "FirstTreesModel" 99 y_M_findNothing ∈ WS := ws_5 38 rfl rfl
set_option maxRecDepth 20000 in
theorem ml_M_92 : Cond.methodLink "FirstTreesModel" 92 y_M_rowIsNothing ∈ WS := ws_5 42 rfl rfl
set_option maxRecDepth 20000 in
theorem ml_M_85 : Cond.methodLink "FirstTreesModel" 85 y_M_isRule ∈ WS := ws_5 46 rfl rfl
set_option maxRecDepth 20000 in
theorem ml_M_102 : Cond.methodLink "FirstTreesModel" 102 y_M_findLeft ∈ WS := ws_5 49 rfl rfl
set_option maxRecDepth 20000 in
theorem ml_M_155 : Cond.methodLink "FirstTreesModel" 155 y_M_findPlaces ∈ WS := ws_5 53 rfl rfl
set_option maxRecDepth 20000 in
theorem ml_M_115 : Cond.methodLink "FirstTreesModel" 115 y_M_makeOrder ∈ WS := ws_5 57 rfl rfl
set_option maxRecDepth 20000 in
theorem ml_M_118 : Cond.methodLink "FirstTreesModel" 118 y_M_alongAlternative ∈ WS := ws_5 61 rfl rfl
set_option maxRecDepth 20000 in
theorem ml_M_111 : Cond.methodLink "FirstTreesModel" 111 y_M_step ∈ WS := ws_5 65 rfl rfl
set_option maxRecDepth 20000 in
theorem ml_M_161 : Cond.methodLink "FirstTreesModel" 161 y_M_findWays ∈ WS := ws_5 69 rfl rfl
set_option maxRecDepth 20000 in
theorem ml_M_124 : Cond.methodLink "FirstTreesModel" 124 y_M_waysAlong ∈ WS := ws_5 73 rfl rfl
set_option maxRecDepth 20000 in
theorem ml_M_128 : Cond.methodLink "FirstTreesModel" 128 y_M_capped ∈ WS := ws_5 77 rfl rfl
set_option maxRecDepth 20000 in
theorem ml_M_164 : Cond.methodLink "FirstTreesModel" 164 y_M_makeTree ∈ WS := ws_5 81 rfl rfl
set_option maxRecDepth 20000 in
theorem ml_M_148 : Cond.methodLink "FirstTreesModel" 148 y_M_makeNode ∈ WS := ws_5 85 rfl rfl
set_option maxRecDepth 20000 in
theorem ml_M_138 : Cond.methodLink "FirstTreesModel" 138 y_M_reachOf ∈ WS := ws_5 89 rfl rfl
set_option maxRecDepth 20000 in
theorem ml_M_141 : Cond.methodLink "FirstTreesModel" 141 y_M_push ∈ WS := ws_5 93 rfl rfl
set_option maxRecDepth 20000 in
theorem ml_M_145 : Cond.methodLink "FirstTreesModel" 145 y_M_before ∈ WS := ws_5 97 rfl rfl
set_option maxRecDepth 20000 in
theorem ml_L_74 : Cond.methodLink "FirstTreesLaw" 74 y_M_rule ∈ WS := ws_5 101 rfl rfl
set_option maxRecDepth 20000 in
theorem ml_L_81 : Cond.methodLink "FirstTreesLaw" 81 y_M_alternative ∈ WS := ws_5 105 rfl rfl
set_option maxRecDepth 20000 in
theorem ml_M_168 : Cond.methodLink "FirstTreesModel" 168 y_M_isThere ∈ WS := ws_5 109 rfl rfl
set_option maxRecDepth 20000 in
theorem ml_L_85 : Cond.methodLink "FirstTreesLaw" 85 y_M_symbol ∈ WS := ws_5 113 rfl rfl
set_option maxRecDepth 20000 in
theorem ml_L_89 : Cond.methodLink "FirstTreesLaw" 89 y_M_clear ∈ WS := ws_5 117 rfl rfl
set_option maxRecDepth 20000 in
theorem ml_L_93 : Cond.methodLink "FirstTreesLaw" 93 y_M_fault ∈ WS := ws_5 121 rfl rfl
set_option maxRecDepth 20000 in
theorem ml_L_97 : Cond.methodLink "FirstTreesLaw" 97 y_M_faulty ∈ WS := ws_5 125 rfl rfl
set_option maxRecDepth 20000 in
theorem ml_L_100 : Cond.methodLink "FirstTreesLaw" 100 y_M_token ∈ WS := ws_5 129 rfl rfl
set_option maxRecDepth 20000 in
theorem ml_L_104 : Cond.methodLink "FirstTreesLaw" 104 y_M_keep ∈ WS := ws_5 133 rfl rfl
set_option maxRecDepth 20000 in
theorem ml_L_111 : Cond.methodLink "FirstTreesLaw" 111 y_M_nodes ∈ WS := ws_5 137 rfl rfl
set_option maxRecDepth 20000 in
theorem ml_L_114 : Cond.methodLink "FirstTreesLaw" 114 y_M_node ∈ WS := ws_5 141 rfl rfl
set_option maxRecDepth 20000 in
theorem ml_L_117 : Cond.methodLink "FirstTreesLaw" 117 y_M_reach ∈ WS := ws_5 145 rfl rfl
set_option maxRecDepth 20000 in
theorem ml_L_120 : Cond.methodLink "FirstTreesLaw" 120 y_M_expected ∈ WS := ws_5 149 rfl rfl
set_option maxRecDepth 20000 in
theorem ml_M_175 : Cond.methodLink "FirstTreesModel" 175 y_M_findNexts ∈ WS := ws_5 153 rfl rfl
set_option maxRecDepth 20000 in
theorem ml_M_171 : Cond.methodLink "FirstTreesModel" 171 y_M_nextAlong ∈ WS := ws_5 157 rfl rfl
set_option maxRecDepth 20000 in
theorem ml_L_123 : Cond.methodLink "FirstTreesLaw" 123 y_M_isNothing ∈ WS := ws_5 162 rfl rfl
set_option maxRecDepth 20000 in
theorem ml_M_192 : Cond.methodLink "FirstTreesModel" 192 y_M_look ∈ WS := ws_5 166 rfl rfl
set_option maxRecDepth 20000 in
theorem ml_M_189 : Cond.methodLink "FirstTreesModel" 189 y_M_findSets ∈ WS := ws_5 170 rfl rfl
set_option maxRecDepth 20000 in
theorem ml_M_181 : Cond.methodLink "FirstTreesModel" 181 y_M_firstOf ∈ WS := ws_5 174 rfl rfl
set_option maxRecDepth 20000 in
theorem ml_M_185 : Cond.methodLink "FirstTreesModel" 185 y_M_followAlong ∈ WS := ws_5 178 rfl rfl
set_option maxRecDepth 20000 in
theorem ml_L_126 : Cond.methodLink "FirstTreesLaw" 126 y_M_first ∈ WS := ws_5 182 rfl rfl
set_option maxRecDepth 20000 in
theorem ml_L_129 : Cond.methodLink "FirstTreesLaw" 129 y_M_following ∈ WS := ws_5 186 rfl rfl
set_option maxRecDepth 20000 in
theorem ml_L_132 : Cond.methodLink "FirstTreesLaw" 132 y_M_lets ∈ WS := ws_5 190 rfl rfl
set_option maxRecDepth 20000 in
theorem ml_L_135 : Cond.methodLink "FirstTreesLaw" 135 y_M_count ∈ WS := ws_5 194 rfl rfl
set_option maxRecDepth 20000 in
theorem mn_F_11 : Cond.methodLinkNest "FirstTrees" 11 y_G_init "FirstTrees" ∈ NW := List.mem_of_getElem? (i := 0) rfl
set_option maxRecDepth 20000 in
theorem mn_F_27 : Cond.methodLinkNest "FirstTrees" 27 y_I_init "FirstTrees" ∈ NW := List.mem_of_getElem? (i := 1) rfl
set_option maxRecDepth 20000 in
theorem mn_F_61 : Cond.methodLinkNest "FirstTrees" 61 y_T_init "FirstTrees" ∈ NW := List.mem_of_getElem? (i := 2) rfl
set_option maxRecDepth 20000 in
theorem mn_S_61 : Cond.methodLinkNest "FirstTrees$Study" 61 y_F_has "FirstTrees" ∈ NW := List.mem_of_getElem? (i := 3) rfl
set_option maxRecDepth 20000 in
theorem mn_C_70 : Cond.methodLinkNest "FirstTrees$Chart" 70 y_F_has "FirstTrees" ∈ NW := List.mem_of_getElem? (i := 14) rfl
set_option maxRecDepth 20000 in
theorem mn_K_152 : Cond.methodLinkNest "FirstTrees$Walk" 152 y_P_init "FirstTrees" ∈ NW := List.mem_of_getElem? (i := 15) rfl
set_option maxRecDepth 20000 in
theorem mn_K_139 : Cond.methodLinkNest "FirstTrees$Walk" 139 y_F_has "FirstTrees" ∈ NW := List.mem_of_getElem? (i := 19) rfl
abbrev rm_F_init : Room := { frames := 2, cells := 0, slots := 0, locals := 44 }
abbrev rm_F_rule : Room := { frames := 6, cells := 0, slots := 0, locals := 89 }
abbrev rm_F_alternative : Room := { frames := 7, cells := 0, slots := 0, locals := 110 }
abbrev rm_F_symbol : Room := { frames := 7, cells := 0, slots := 0, locals := 110 }
abbrev rm_F_clear : Room := { frames := 1, cells := 0, slots := 0, locals := 21 }
abbrev rm_F_fault : Room := { frames := 5, cells := 0, slots := 0, locals := 116 }
abbrev rm_F_faulty : Room := { frames := 5, cells := 0, slots := 0, locals := 116 }
abbrev rm_F_token : Room := { frames := 6, cells := 0, slots := 0, locals := 89 }
abbrev rm_F_keep : Room := { frames := 6, cells := 0, slots := 0, locals := 89 }
abbrev rm_F_parse : Room := { frames := 7, cells := 0, slots := 0, locals := 155 }
abbrev rm_F_nodes : Room := { frames := 1, cells := 0, slots := 0, locals := 20 }
abbrev rm_F_node : Room := { frames := 6, cells := 0, slots := 0, locals := 89 }
abbrev rm_F_reach : Room := { frames := 7, cells := 0, slots := 0, locals := 136 }
abbrev rm_F_expected : Room := { frames := 7, cells := 0, slots := 0, locals := 136 }
abbrev rm_F_isNothing : Room := { frames := 7, cells := 0, slots := 0, locals := 136 }
abbrev rm_F_first : Room := { frames := 7, cells := 0, slots := 0, locals := 136 }
abbrev rm_F_following : Room := { frames := 7, cells := 0, slots := 0, locals := 136 }
abbrev rm_F_lets : Room := { frames := 7, cells := 0, slots := 0, locals := 136 }
abbrev rm_F_count : Room := { frames := 6, cells := 0, slots := 0, locals := 89 }
abbrev rm_F_mustBeRule : Room := { frames := 6, cells := 0, slots := 0, locals := 89 }
abbrev rm_F_mustBeRight : Room := { frames := 6, cells := 0, slots := 0, locals := 116 }
abbrev rm_F_has : Room := { frames := 0, cells := 0, slots := 0, locals := 0 }
abbrev rm_M_init : Room := { frames := 1, cells := 0, slots := 0, locals := 20 }
abbrev rm_M_thrown : Room := { frames := 0, cells := 0, slots := 0, locals := 0 }
abbrev rm_M_symbolAt : Room := { frames := 0, cells := 0, slots := 0, locals := 0 }
abbrev rm_M_sizeOf : Room := { frames := 0, cells := 0, slots := 0, locals := 0 }
abbrev rm_M_isRule : Room := { frames := 0, cells := 0, slots := 0, locals := 0 }
abbrev rm_M_rowIsNothing : Room := { frames := 1, cells := 0, slots := 0, locals := 23 }
abbrev rm_M_findNothing : Room := { frames := 2, cells := 0, slots := 0, locals := 49 }
abbrev rm_M_findLeft : Room := { frames := 1, cells := 0, slots := 0, locals := 23 }
abbrev rm_M_faultOf : Room := { frames := 3, cells := 0, slots := 0, locals := 72 }
abbrev rm_M_makeOrder : Room := { frames := 0, cells := 0, slots := 0, locals := 0 }
abbrev rm_M_step : Room := { frames := 1, cells := 0, slots := 0, locals := 20 }
abbrev rm_M_alongAlternative : Room := { frames := 2, cells := 0, slots := 0, locals := 47 }
abbrev rm_M_findPlaces : Room := { frames := 3, cells := 0, slots := 0, locals := 74 }
abbrev rm_M_capped : Room := { frames := 0, cells := 0, slots := 0, locals := 0 }
abbrev rm_M_findWays : Room := { frames := 3, cells := 0, slots := 0, locals := 74 }
abbrev rm_M_waysAlong : Room := { frames := 1, cells := 0, slots := 0, locals := 23 }
abbrev rm_M_before : Room := { frames := 1, cells := 0, slots := 0, locals := 20 }
abbrev rm_M_reachOf : Room := { frames := 3, cells := 0, slots := 0, locals := 74 }
abbrev rm_M_push : Room := { frames := 0, cells := 0, slots := 0, locals := 0 }
abbrev rm_M_makeNode : Room := { frames := 4, cells := 0, slots := 0, locals := 100 }
abbrev rm_M_makeTree : Room := { frames := 5, cells := 0, slots := 0, locals := 132 }
abbrev rm_M_parse : Room := { frames := 6, cells := 0, slots := 0, locals := 154 }
abbrev rm_M_rule : Room := { frames := 0, cells := 0, slots := 0, locals := 0 }
abbrev rm_M_isThere : Room := { frames := 0, cells := 0, slots := 0, locals := 0 }
abbrev rm_M_alternative : Room := { frames := 1, cells := 0, slots := 0, locals := 21 }
abbrev rm_M_symbol : Room := { frames := 1, cells := 0, slots := 0, locals := 22 }
abbrev rm_M_clear : Room := { frames := 0, cells := 0, slots := 0, locals := 0 }
abbrev rm_M_fault : Room := { frames := 4, cells := 0, slots := 0, locals := 95 }
abbrev rm_M_faulty : Room := { frames := 4, cells := 0, slots := 0, locals := 95 }
abbrev rm_M_token : Room := { frames := 0, cells := 0, slots := 0, locals := 0 }
abbrev rm_M_keep : Room := { frames := 0, cells := 0, slots := 0, locals := 0 }
abbrev rm_M_nodes : Room := { frames := 0, cells := 0, slots := 0, locals := 0 }
abbrev rm_M_node : Room := { frames := 0, cells := 0, slots := 0, locals := 0 }
abbrev rm_M_reach : Room := { frames := 4, cells := 0, slots := 0, locals := 101 }
abbrev rm_M_findNexts : Room := { frames := 3, cells := 0, slots := 0, locals := 78 }
abbrev rm_M_nextAlong : Room := { frames := 2, cells := 0, slots := 0, locals := 47 }
abbrev rm_M_expected : Room := { frames := 4, cells := 0, slots := 0, locals := 105 }
abbrev rm_M_firstOf : Room := { frames := 1, cells := 0, slots := 0, locals := 23 }
abbrev rm_M_findSets : Room := { frames := 3, cells := 0, slots := 0, locals := 75 }
abbrev rm_M_followAlong : Room := { frames := 2, cells := 0, slots := 0, locals := 51 }
abbrev rm_M_look : Room := { frames := 4, cells := 0, slots := 0, locals := 98 }
abbrev rm_M_isNothing : Room := { frames := 5, cells := 0, slots := 0, locals := 119 }
abbrev rm_M_first : Room := { frames := 5, cells := 0, slots := 0, locals := 119 }
abbrev rm_M_following : Room := { frames := 5, cells := 0, slots := 0, locals := 119 }
abbrev rm_M_lets : Room := { frames := 5, cells := 0, slots := 0, locals := 119 }
abbrev rm_M_count : Room := { frames := 0, cells := 0, slots := 0, locals := 0 }
abbrev rm_C_init : Room := { frames := 1, cells := 0, slots := 0, locals := 20 }
abbrev rm_C_fill : Room := { frames := 4, cells := 0, slots := 0, locals := 104 }
abbrev rm_C_hasTree : Room := { frames := 1, cells := 0, slots := 0, locals := 22 }
abbrev rm_C_farOfAll : Room := { frames := 1, cells := 0, slots := 0, locals := 21 }
abbrev rm_C_soonOfAll : Room := { frames := 1, cells := 0, slots := 0, locals := 21 }
abbrev rm_C_end : Room := { frames := 0, cells := 0, slots := 0, locals := 0 }
abbrev rm_C_at : Room := { frames := 0, cells := 0, slots := 0, locals := 0 }
abbrev rm_C_rowFits : Room := { frames := 0, cells := 0, slots := 0, locals := 0 }
abbrev rm_C_rowFar : Room := { frames := 0, cells := 0, slots := 0, locals := 0 }
abbrev rm_C_ruleFits : Room := { frames := 0, cells := 0, slots := 0, locals := 0 }
abbrev rm_C_ruleFar : Room := { frames := 0, cells := 0, slots := 0, locals := 0 }
abbrev rm_C_findPlaces : Room := { frames := 1, cells := 0, slots := 0, locals := 21 }
abbrev rm_C_fillRule : Room := { frames := 3, cells := 0, slots := 0, locals := 75 }
abbrev rm_C_readRow : Room := { frames := 2, cells := 0, slots := 0, locals := 51 }
abbrev rm_C_readToken : Room := { frames := 1, cells := 0, slots := 0, locals := 22 }
abbrev rm_C_readRule : Room := { frames := 1, cells := 0, slots := 0, locals := 25 }
abbrev rm_G_init : Room := { frames := 1, cells := 0, slots := 0, locals := 20 }
abbrev rm_G_isToken : Room := { frames := 0, cells := 0, slots := 0, locals := 0 }
abbrev rm_G_ruleOf : Room := { frames := 0, cells := 0, slots := 0, locals := 0 }
abbrev rm_G_row : Room := { frames := 0, cells := 0, slots := 0, locals := 0 }
abbrev rm_G_addRule : Room := { frames := 0, cells := 0, slots := 0, locals := 0 }
abbrev rm_G_addAlternative : Room := { frames := 2, cells := 0, slots := 0, locals := 42 }
abbrev rm_G_addSymbol : Room := { frames := 2, cells := 0, slots := 0, locals := 42 }
abbrev rm_G_loseRules : Room := { frames := 0, cells := 0, slots := 0, locals := 0 }
abbrev rm_G_rules : Room := { frames := 0, cells := 0, slots := 0, locals := 0 }
abbrev rm_G_alternatives : Room := { frames := 0, cells := 0, slots := 0, locals := 0 }
abbrev rm_G_latestRow : Room := { frames := 1, cells := 0, slots := 0, locals := 21 }
abbrev rm_G_length : Room := { frames := 0, cells := 0, slots := 0, locals := 0 }
abbrev rm_G_symbolAt : Room := { frames := 0, cells := 0, slots := 0, locals := 0 }
abbrev rm_G_rulesIn : Room := { frames := 1, cells := 0, slots := 0, locals := 22 }
abbrev rm_I_init : Room := { frames := 1, cells := 0, slots := 0, locals := 20 }
abbrev rm_I_add : Room := { frames := 0, cells := 0, slots := 0, locals := 0 }
abbrev rm_I_cut : Room := { frames := 0, cells := 0, slots := 0, locals := 0 }
abbrev rm_I_size : Room := { frames := 0, cells := 0, slots := 0, locals := 0 }
abbrev rm_I_tokenAt : Room := { frames := 0, cells := 0, slots := 0, locals := 0 }
abbrev rm_P_init : Room := { frames := 1, cells := 0, slots := 0, locals := 20 }
abbrev rm_S_init : Room := { frames := 1, cells := 0, slots := 0, locals := 20 }
abbrev rm_S_outdate : Room := { frames := 0, cells := 0, slots := 0, locals := 0 }
abbrev rm_S_bringUpToDate : Room := { frames := 4, cells := 0, slots := 0, locals := 96 }
abbrev rm_S_faultKind : Room := { frames := 0, cells := 0, slots := 0, locals := 0 }
abbrev rm_S_faultyRule : Room := { frames := 0, cells := 0, slots := 0, locals := 0 }
abbrev rm_S_inOrder : Room := { frames := 0, cells := 0, slots := 0, locals := 0 }
abbrev rm_S_ruleIsNothing : Room := { frames := 1, cells := 0, slots := 0, locals := 22 }
abbrev rm_S_ruleFirst : Room := { frames := 0, cells := 0, slots := 0, locals := 0 }
abbrev rm_S_ruleFollowing : Room := { frames := 0, cells := 0, slots := 0, locals := 0 }
abbrev rm_S_letIn : Room := { frames := 3, cells := 0, slots := 0, locals := 68 }
abbrev rm_S_findNothing : Room := { frames := 3, cells := 0, slots := 0, locals := 65 }
abbrev rm_S_rowIsNothing : Room := { frames := 2, cells := 0, slots := 0, locals := 43 }
abbrev rm_S_symbolIsNothing : Room := { frames := 1, cells := 0, slots := 0, locals := 22 }
abbrev rm_S_findLeft : Room := { frames := 3, cells := 0, slots := 0, locals := 67 }
abbrev rm_S_rulesAtLeft : Room := { frames := 2, cells := 0, slots := 0, locals := 43 }
abbrev rm_S_findFault : Room := { frames := 3, cells := 0, slots := 0, locals := 68 }
abbrev rm_S_hasFault : Room := { frames := 2, cells := 0, slots := 0, locals := 46 }
abbrev rm_S_hasSymbolNotThere : Room := { frames := 1, cells := 0, slots := 0, locals := 22 }
abbrev rm_S_findOrder : Room := { frames := 1, cells := 0, slots := 0, locals := 20 }
abbrev rm_S_findFirsts : Room := { frames := 3, cells := 0, slots := 0, locals := 68 }
abbrev rm_S_rowFirst : Room := { frames := 2, cells := 0, slots := 0, locals := 43 }
abbrev rm_S_symbolFirst : Room := { frames := 1, cells := 0, slots := 0, locals := 20 }
abbrev rm_S_findFollowings : Room := { frames := 3, cells := 0, slots := 0, locals := 72 }
abbrev rm_S_widenFollowings : Room := { frames := 2, cells := 0, slots := 0, locals := 43 }
abbrev rm_T_init : Room := { frames := 1, cells := 0, slots := 0, locals := 20 }
abbrev rm_T_empty : Room := { frames := 0, cells := 0, slots := 0, locals := 0 }
abbrev rm_T_size : Room := { frames := 0, cells := 0, slots := 0, locals := 0 }
abbrev rm_T_fact : Room := { frames := 0, cells := 0, slots := 0, locals := 0 }
abbrev rm_T_add : Room := { frames := 0, cells := 0, slots := 0, locals := 0 }
abbrev rm_T_choose : Room := { frames := 0, cells := 0, slots := 0, locals := 0 }
abbrev rm_T_findEnds : Room := { frames := 0, cells := 0, slots := 0, locals := 0 }
abbrev rm_K_init : Room := { frames := 1, cells := 0, slots := 0, locals := 20 }
abbrev rm_K_derive : Room := { frames := 6, cells := 0, slots := 0, locals := 132 }
abbrev rm_K_replace : Room := { frames := 5, cells := 0, slots := 0, locals := 105 }
abbrev rm_K_firstFitting : Room := { frames := 3, cells := 0, slots := 0, locals := 75 }
abbrev rm_K_look : Room := { frames := 3, cells := 0, slots := 0, locals := 75 }
abbrev rm_K_reachOfRow : Room := { frames := 2, cells := 0, slots := 0, locals := 52 }
abbrev rm_K_farthest : Room := { frames := 1, cells := 0, slots := 0, locals := 25 }
abbrev rm_K_layBottom : Room := { frames := 3, cells := 0, slots := 0, locals := 60 }
abbrev rm_K_layRow : Room := { frames := 4, cells := 0, slots := 0, locals := 82 }
abbrev rm_K_lay : Room := { frames := 3, cells := 0, slots := 0, locals := 60 }
abbrev rm_K_makeRoom : Room := { frames := 2, cells := 0, slots := 0, locals := 40 }
abbrev rm_K_findReaches : Room := { frames := 2, cells := 0, slots := 0, locals := 52 }
abbrev rm_K_reachOfToken : Room := { frames := 1, cells := 0, slots := 0, locals := 21 }
abbrev rm_Y_init : Room := { frames := 1, cells := 0, slots := 0, locals := 20 }
abbrev rm_Y_ofWholeInput : Room := { frames := 5, cells := 0, slots := 0, locals := 125 }
abbrev rm_Y_at : Room := { frames := 0, cells := 0, slots := 0, locals := 0 }
abbrev rm_Y_fillRule : Room := { frames := 4, cells := 0, slots := 0, locals := 101 }
abbrev rm_Y_addRow : Room := { frames := 1, cells := 0, slots := 0, locals := 25 }
abbrev rm_Y_readRow : Room := { frames := 3, cells := 0, slots := 0, locals := 77 }
abbrev rm_Y_readToken : Room := { frames := 1, cells := 0, slots := 0, locals := 21 }
abbrev rm_Y_readRule : Room := { frames := 2, cells := 0, slots := 0, locals := 52 }
abbrev rm_Y_spread : Room := { frames := 1, cells := 0, slots := 0, locals := 25 }
abbrev rm_L_rule : Room := { frames := 7, cells := 0, slots := 0, locals := 109 }
abbrev rm_L_alternative : Room := { frames := 8, cells := 0, slots := 0, locals := 131 }
abbrev rm_L_symbol : Room := { frames := 8, cells := 0, slots := 0, locals := 132 }
abbrev rm_L_token : Room := { frames := 7, cells := 0, slots := 0, locals := 110 }
abbrev rm_L_keep : Room := { frames := 7, cells := 0, slots := 0, locals := 110 }
abbrev rm_L_parse : Room := { frames := 8, cells := 0, slots := 0, locals := 176 }
abbrev rm_L_node : Room := { frames := 7, cells := 0, slots := 0, locals := 111 }
abbrev rm_L_reach : Room := { frames := 8, cells := 0, slots := 0, locals := 156 }
abbrev rm_L_expected : Room := { frames := 8, cells := 0, slots := 0, locals := 157 }
abbrev rm_L_isNothing : Room := { frames := 8, cells := 0, slots := 0, locals := 157 }
abbrev rm_L_first : Room := { frames := 8, cells := 0, slots := 0, locals := 157 }
abbrev rm_L_following : Room := { frames := 8, cells := 0, slots := 0, locals := 157 }
abbrev rm_L_lets : Room := { frames := 8, cells := 0, slots := 0, locals := 158 }
abbrev rm_L_count : Room := { frames := 7, cells := 0, slots := 0, locals := 110 }
abbrev rm_L_law : Room := { frames := 9, cells := 0, slots := 0, locals := 198 }
