/-! the exceptions; the component face: paths to an answer or to an exception, by program -/
set_option maxRecDepth 20000 in
set_option maxHeartbeats 4000000 in
theorem at_UnsupportedOperationException : AT 77 "java/lang/UnsupportedOperationException" ["java/lang/RuntimeException", "java/lang/Exception"] := by unfold AT; decide +kernel
set_option maxRecDepth 20000 in
set_option maxHeartbeats 4000000 in
theorem at_IllegalArgumentException : AT 103 "java/lang/IllegalArgumentException" ["java/lang/RuntimeException", "java/lang/Exception"] := by unfold AT; decide +kernel
set_option maxRecDepth 20000 in
set_option maxHeartbeats 4000000 in
theorem at_IllegalStateException : AT 108 "java/lang/IllegalStateException" ["java/lang/RuntimeException", "java/lang/Exception"] := by unfold AT; decide +kernel
set_option maxRecDepth 20000 in
set_option maxHeartbeats 4000000 in
theorem at_IndexOutOfBoundsException : AT 175 "java/lang/IndexOutOfBoundsException" ["java/lang/RuntimeException", "java/lang/Exception"] := by unfold AT; decide +kernel
abbrev rmt_F_init : Room := { frames := 2, cells := 1, slots := 6, locals := 44 }
abbrev rmt_F_rule : Room := { frames := 6, cells := 1, slots := 6, locals := 89 }
abbrev rmt_F_alternative : Room := { frames := 7, cells := 1, slots := 6, locals := 110 }
abbrev rmt_F_symbol : Room := { frames := 7, cells := 1, slots := 6, locals := 110 }
abbrev rmt_F_clear : Room := { frames := 1, cells := 1, slots := 6, locals := 21 }
abbrev rmt_F_fault : Room := { frames := 5, cells := 1, slots := 6, locals := 116 }
abbrev rmt_F_faulty : Room := { frames := 5, cells := 1, slots := 6, locals := 116 }
abbrev rmt_F_token : Room := { frames := 6, cells := 1, slots := 6, locals := 89 }
abbrev rmt_F_keep : Room := { frames := 6, cells := 1, slots := 6, locals := 89 }
abbrev rmt_F_parse : Room := { frames := 7, cells := 1, slots := 6, locals := 155 }
abbrev rmt_F_nodes : Room := { frames := 1, cells := 1, slots := 6, locals := 20 }
abbrev rmt_F_node : Room := { frames := 6, cells := 1, slots := 6, locals := 89 }
abbrev rmt_F_reach : Room := { frames := 7, cells := 1, slots := 6, locals := 136 }
abbrev rmt_F_expected : Room := { frames := 7, cells := 1, slots := 6, locals := 136 }
abbrev rmt_F_isNothing : Room := { frames := 7, cells := 1, slots := 6, locals := 136 }
abbrev rmt_F_first : Room := { frames := 7, cells := 1, slots := 6, locals := 136 }
abbrev rmt_F_following : Room := { frames := 7, cells := 1, slots := 6, locals := 136 }
abbrev rmt_F_lets : Room := { frames := 7, cells := 1, slots := 6, locals := 136 }
abbrev rmt_F_count : Room := { frames := 6, cells := 1, slots := 6, locals := 89 }
abbrev rmt_F_mustBeRule : Room := { frames := 6, cells := 1, slots := 6, locals := 89 }
abbrev rmt_F_mustBeRight : Room := { frames := 6, cells := 1, slots := 6, locals := 116 }
abbrev rmt_F_has : Room := { frames := 0, cells := 1, slots := 6, locals := 0 }
theorem cz_F_mustBeRule_t (G : GG) (σ : St) (x1 : Int32)  (c1 : x1 < 0) : CtT y_F_mustBeRule c_F_mustBeRule 2 none rmt_F_mustBeRule G [.ref (xa σ 0), .int x1] (WC G σ) "java/lang/IndexOutOfBoundsException" (fun w' => w' = (WC G σ)) := by
  refine CtT.of (by decide +kernel) (Nat.le_of_ble_eq_true rfl) (fun K X hex => ?_)
  show Lb K G _ _ 2 0 [(0, .ref (xa σ 0)), (1, .int x1)] [] _ 0 0
  refine b_iload_n X d_F_mustBeRule_0 1 rfl rfl ?_
  refine b_if_lt X (tgt := 15) d_F_mustBeRule_1 (by decide) (fun _ => ?_) (fun h => absurd c1 h)
  exact b_throw X hex at_IndexOutOfBoundsException ⟨by decide +kernel, by decide +kernel⟩ (ws_t 462 (by decide +kernel) rfl) (ws_t 463 (by decide +kernel) rfl) (ws_t 14 (by decide +kernel) rfl) (tx := "no such rule") (List.mem_of_getElem? (i := 1) rfl) ⟨Nat.le_of_ble_eq_true rfl, Nat.le_of_ble_eq_true rfl, Nat.le_of_ble_eq_true rfl, Nat.le_of_ble_eq_true rfl⟩ d_F_mustBeRule_15 d_F_mustBeRule_18 d_F_mustBeRule_19 d_F_mustBeRule_21 d_F_mustBeRule_24 rfl
theorem ct_F_mustBeRule_ft (G : GG) (σ : St) (x1 : Int32)  (c1 : ¬ x1 < 0) (c12 : x1 < (xi σ 1 0)) : Ct y_F_mustBeRule c_F_mustBeRule 2 none rm_F_mustBeRule G [.ref (xa σ 0), .int x1] (WC G σ) (eqp none (WC G σ)) := by
  refine Ct.of (by decide +kernel) (Nat.le_of_ble_eq_true rfl) (fun K X => ?_)
  show Lb K G _ _ 2 0 [(0, .ref (xa σ 0)), (1, .int x1)] [] _ 0 0
  refine b_iload_n X d_F_mustBeRule_0 1 rfl rfl ?_
  refine b_if_lt X (tgt := 15) d_F_mustBeRule_1 (by decide) (fun h => absurd h c1) (fun _ => ?_)
  refine b_iload_n X d_F_mustBeRule_4 1 rfl rfl ?_
  refine b_aload_n X d_F_mustBeRule_5 0 rfl rfl ?_
  refine b_get X fl_F_12 0 rfl (v := .ref (xa σ 1)) rfl d_F_mustBeRule_6 ?_
  refine b_dV X cf_G_rules ci_G_rules ml_F_69 (ct_G_rules_ G σ ) 1 rfl rfl (As := []) (rest := [.int x1]) rfl (Nat.le_of_ble_eq_true rfl) ⟨Nat.le_of_ble_eq_true rfl, Nat.le_of_ble_eq_true rfl⟩ ⟨Nat.le_of_ble_eq_true rfl, Nat.le_of_ble_eq_true rfl⟩ rfl rfl d_F_mustBeRule_9 ?_
  refine b_icmp_lt X (tgt := 25) d_F_mustBeRule_12 (by decide) (fun _ => ?_) (fun h => absurd c12 h)
  exact b_vret X d_F_mustBeRule_25 ⟨rfl, rfl⟩
theorem cz_F_mustBeRule_ff (G : GG) (σ : St) (x1 : Int32)  (c1 : ¬ x1 < 0) (c12 : ¬ x1 < (xi σ 1 0)) : CtT y_F_mustBeRule c_F_mustBeRule 2 none rmt_F_mustBeRule G [.ref (xa σ 0), .int x1] (WC G σ) "java/lang/IndexOutOfBoundsException" (fun w' => w' = (WC G σ)) := by
  refine CtT.of (by decide +kernel) (Nat.le_of_ble_eq_true rfl) (fun K X hex => ?_)
  show Lb K G _ _ 2 0 [(0, .ref (xa σ 0)), (1, .int x1)] [] _ 0 0
  refine b_iload_n X d_F_mustBeRule_0 1 rfl rfl ?_
  refine b_if_lt X (tgt := 15) d_F_mustBeRule_1 (by decide) (fun h => absurd h c1) (fun _ => ?_)
  refine b_iload_n X d_F_mustBeRule_4 1 rfl rfl ?_
  refine b_aload_n X d_F_mustBeRule_5 0 rfl rfl ?_
  refine b_get X fl_F_12 0 rfl (v := .ref (xa σ 1)) rfl d_F_mustBeRule_6 ?_
  refine b_dV X cf_G_rules ci_G_rules ml_F_69 (ct_G_rules_ G σ ) 1 rfl rfl (As := []) (rest := [.int x1]) rfl (Nat.le_of_ble_eq_true rfl) ⟨Nat.le_of_ble_eq_true rfl, Nat.le_of_ble_eq_true rfl⟩ ⟨Nat.le_of_ble_eq_true rfl, Nat.le_of_ble_eq_true rfl⟩ rfl rfl d_F_mustBeRule_9 ?_
  refine b_icmp_lt X (tgt := 25) d_F_mustBeRule_12 (by decide) (fun h => absurd h c12) (fun _ => ?_)
  exact b_throw X hex at_IndexOutOfBoundsException ⟨by decide +kernel, by decide +kernel⟩ (ws_t 462 (by decide +kernel) rfl) (ws_t 463 (by decide +kernel) rfl) (ws_t 14 (by decide +kernel) rfl) (tx := "no such rule") (List.mem_of_getElem? (i := 1) rfl) ⟨Nat.le_of_ble_eq_true rfl, Nat.le_of_ble_eq_true rfl, Nat.le_of_ble_eq_true rfl, Nat.le_of_ble_eq_true rfl⟩ d_F_mustBeRule_15 d_F_mustBeRule_18 d_F_mustBeRule_19 d_F_mustBeRule_21 d_F_mustBeRule_24 rfl
theorem ct_F_mustBeRight_t (G : GG) (σ : St)  (q4 : Sq) (t4 : Ct y_S_bringUpToDate c_S_bringUpToDate 1 none rm_S_bringUpToDate G [.ref (xa σ 5)] (WC G σ) (eqp (none) (WC G (xa σ, q4)))) (c14 : (xi (xa σ, q4) 5 1) = 0) : Ct y_F_mustBeRight c_F_mustBeRight 1 none rm_F_mustBeRight G [.ref (xa σ 0)] (WC G σ) (eqp none (WC G (xa σ, q4))) := by
  refine Ct.of (by decide +kernel) (Nat.le_of_ble_eq_true rfl) (fun K X => ?_)
  show Lb K G _ _ 1 0 [(0, .ref (xa σ 0))] [] _ 0 0
  refine b_aload_n X d_F_mustBeRight_0 0 rfl rfl ?_
  refine b_get X fl_F_21 0 rfl (v := .ref (xa σ 5)) rfl d_F_mustBeRight_1 ?_
  refine b_dV X cf_S_bringUpToDate ci_S_bringUpToDate ml_F_124 t4 5 rfl rfl (As := []) (rest := []) rfl (Nat.le_of_ble_eq_true rfl) ⟨Nat.le_of_ble_eq_true rfl, Nat.le_of_ble_eq_true rfl⟩ ⟨Nat.le_of_ble_eq_true rfl, Nat.le_of_ble_eq_true rfl⟩ rfl rfl d_F_mustBeRight_4 ?_
  refine b_aload_n X d_F_mustBeRight_7 0 rfl rfl ?_
  refine b_get X fl_F_21 0 rfl (v := .ref (xa σ 5)) rfl d_F_mustBeRight_8 ?_
  refine b_dV X cf_S_faultKind ci_S_faultKind ml_F_127 (ct_S_faultKind_ G (xa σ, q4) ) 5 rfl rfl (As := []) (rest := []) rfl (Nat.le_of_ble_eq_true rfl) ⟨Nat.le_of_ble_eq_true rfl, Nat.le_of_ble_eq_true rfl⟩ ⟨Nat.le_of_ble_eq_true rfl, Nat.le_of_ble_eq_true rfl⟩ rfl rfl d_F_mustBeRight_11 ?_
  refine b_if_eq X (tgt := 27) d_F_mustBeRight_14 (by decide) (fun _ => ?_) (fun h => absurd c14 h)
  exact b_vret X d_F_mustBeRight_27 ⟨rfl, rfl⟩
theorem cz_F_mustBeRight_f (G : GG) (σ : St)  (q4 : Sq) (t4 : Ct y_S_bringUpToDate c_S_bringUpToDate 1 none rm_S_bringUpToDate G [.ref (xa σ 5)] (WC G σ) (eqp (none) (WC G (xa σ, q4)))) (c14 : ¬ (xi (xa σ, q4) 5 1) = 0) : CtT y_F_mustBeRight c_F_mustBeRight 1 none rmt_F_mustBeRight G [.ref (xa σ 0)] (WC G σ) "java/lang/IllegalStateException" (fun w' => w' = (WC G (xa σ, q4))) := by
  refine CtT.of (by decide +kernel) (Nat.le_of_ble_eq_true rfl) (fun K X hex => ?_)
  show Lb K G _ _ 1 0 [(0, .ref (xa σ 0))] [] _ 0 0
  refine b_aload_n X d_F_mustBeRight_0 0 rfl rfl ?_
  refine b_get X fl_F_21 0 rfl (v := .ref (xa σ 5)) rfl d_F_mustBeRight_1 ?_
  refine b_dV X cf_S_bringUpToDate ci_S_bringUpToDate ml_F_124 t4 5 rfl rfl (As := []) (rest := []) rfl (Nat.le_of_ble_eq_true rfl) ⟨Nat.le_of_ble_eq_true rfl, Nat.le_of_ble_eq_true rfl⟩ ⟨Nat.le_of_ble_eq_true rfl, Nat.le_of_ble_eq_true rfl⟩ rfl rfl d_F_mustBeRight_4 ?_
  refine b_aload_n X d_F_mustBeRight_7 0 rfl rfl ?_
  refine b_get X fl_F_21 0 rfl (v := .ref (xa σ 5)) rfl d_F_mustBeRight_8 ?_
  refine b_dV X cf_S_faultKind ci_S_faultKind ml_F_127 (ct_S_faultKind_ G (xa σ, q4) ) 5 rfl rfl (As := []) (rest := []) rfl (Nat.le_of_ble_eq_true rfl) ⟨Nat.le_of_ble_eq_true rfl, Nat.le_of_ble_eq_true rfl⟩ ⟨Nat.le_of_ble_eq_true rfl, Nat.le_of_ble_eq_true rfl⟩ rfl rfl d_F_mustBeRight_11 ?_
  refine b_if_eq X (tgt := 27) d_F_mustBeRight_14 (by decide) (fun h => absurd h c14) (fun _ => ?_)
  exact b_throw X hex at_IllegalStateException ⟨by decide +kernel, by decide +kernel⟩ (ws_t 514 (by decide +kernel) rfl) (ws_t 515 (by decide +kernel) rfl) (ws_t 16 (by decide +kernel) rfl) (tx := "the grammar is not right") (List.mem_of_getElem? (i := 9) rfl) ⟨Nat.le_of_ble_eq_true rfl, Nat.le_of_ble_eq_true rfl, Nat.le_of_ble_eq_true rfl, Nat.le_of_ble_eq_true rfl⟩ d_F_mustBeRight_17 d_F_mustBeRight_20 d_F_mustBeRight_21 d_F_mustBeRight_23 d_F_mustBeRight_26 rfl
theorem ct_F_rule_t (G : GG) (σ : St)  (q26 : Sq) (r33 : Int32) (q33 : Sq) (c9 : ¬ (xi σ 1 0) = 16) (t26 : Ct y_S_outdate c_S_outdate 1 none rm_S_outdate G [.ref (xa σ 5)] (WC G σ) (eqp (none) (WC G (xa σ, q26)))) (t33 : Ct y_G_addRule c_G_addRule 1 (some .int) rm_G_addRule G [.ref (xa σ 1)] (WC G (xa σ, q26)) (eqp (some (.int r33)) (WC G (xa σ, q33)))) : Ct y_F_rule c_F_rule 1 (some .int) rm_F_rule G [.ref (xa σ 0)] (WC G σ) (eqp (some (.int r33)) (WC G (xa σ, q33))) := by
  refine Ct.of (by decide +kernel) (Nat.le_of_ble_eq_true rfl) (fun K X => ?_)
  show Lb K G _ _ 1 0 [(0, .ref (xa σ 0))] [] _ 0 0
  refine b_aload_n X d_F_rule_0 0 rfl rfl ?_
  refine b_get X fl_F_12 0 rfl (v := .ref (xa σ 1)) rfl d_F_rule_1 ?_
  refine b_dV X cf_G_rules ci_G_rules ml_F_69 (ct_G_rules_ G σ ) 1 rfl rfl (As := []) (rest := []) rfl (Nat.le_of_ble_eq_true rfl) ⟨Nat.le_of_ble_eq_true rfl, Nat.le_of_ble_eq_true rfl⟩ ⟨Nat.le_of_ble_eq_true rfl, Nat.le_of_ble_eq_true rfl⟩ rfl rfl d_F_rule_4 ?_
  refine b_bipush X (v := 16) d_F_rule_7 (by decide) ?_
  refine b_icmp_ne X (tgt := 22) d_F_rule_9 (by decide) (fun _ => ?_) (fun h => absurd h c9)
  refine b_aload_n X d_F_rule_22 0 rfl rfl ?_
  refine b_get X fl_F_21 0 rfl (v := .ref (xa σ 5)) rfl d_F_rule_23 ?_
  refine b_dV X cf_S_outdate ci_S_outdate ml_F_80 t26 5 rfl rfl (As := []) (rest := []) rfl (Nat.le_of_ble_eq_true rfl) ⟨Nat.le_of_ble_eq_true rfl, Nat.le_of_ble_eq_true rfl⟩ ⟨Nat.le_of_ble_eq_true rfl, Nat.le_of_ble_eq_true rfl⟩ rfl rfl d_F_rule_26 ?_
  refine b_aload_n X d_F_rule_29 0 rfl rfl ?_
  refine b_get X fl_F_12 0 rfl (v := .ref (xa σ 1)) rfl d_F_rule_30 ?_
  refine b_dV X cf_G_addRule ci_G_addRule ml_F_83 t33 1 rfl rfl (As := []) (rest := []) rfl (Nat.le_of_ble_eq_true rfl) ⟨Nat.le_of_ble_eq_true rfl, Nat.le_of_ble_eq_true rfl⟩ ⟨Nat.le_of_ble_eq_true rfl, Nat.le_of_ble_eq_true rfl⟩ rfl rfl d_F_rule_33 ?_
  exact b_iret X d_F_rule_36 ⟨rfl, rfl⟩
theorem cz_F_rule_f (G : GG) (σ : St)   (c9 : (xi σ 1 0) = 16) : CtT y_F_rule c_F_rule 1 (some .int) rmt_F_rule G [.ref (xa σ 0)] (WC G σ) "java/lang/UnsupportedOperationException" (fun w' => w' = (WC G σ)) := by
  refine CtT.of (by decide +kernel) (Nat.le_of_ble_eq_true rfl) (fun K X hex => ?_)
  show Lb K G _ _ 1 0 [(0, .ref (xa σ 0))] [] _ 0 0
  refine b_aload_n X d_F_rule_0 0 rfl rfl ?_
  refine b_get X fl_F_12 0 rfl (v := .ref (xa σ 1)) rfl d_F_rule_1 ?_
  refine b_dV X cf_G_rules ci_G_rules ml_F_69 (ct_G_rules_ G σ ) 1 rfl rfl (As := []) (rest := []) rfl (Nat.le_of_ble_eq_true rfl) ⟨Nat.le_of_ble_eq_true rfl, Nat.le_of_ble_eq_true rfl⟩ ⟨Nat.le_of_ble_eq_true rfl, Nat.le_of_ble_eq_true rfl⟩ rfl rfl d_F_rule_4 ?_
  refine b_bipush X (v := 16) d_F_rule_7 (by decide) ?_
  refine b_icmp_ne X (tgt := 22) d_F_rule_9 (by decide) (fun h => absurd c9 h) (fun _ => ?_)
  exact b_throw X hex at_UnsupportedOperationException ⟨by decide +kernel, by decide +kernel⟩ (ws_t 377 (by decide +kernel) rfl) (ws_t 378 (by decide +kernel) rfl) (ws_t 13 (by decide +kernel) rfl) (tx := "there are 16 rules") (List.mem_of_getElem? (i := 0) rfl) ⟨Nat.le_of_ble_eq_true rfl, Nat.le_of_ble_eq_true rfl, Nat.le_of_ble_eq_true rfl, Nat.le_of_ble_eq_true rfl⟩ d_F_rule_12 d_F_rule_15 d_F_rule_16 d_F_rule_18 d_F_rule_21 rfl
theorem ct_F_alternative_t (G : GG) (σ : St) (x1 : Int32) (n10 : Nat) (q32 : Sq) (r40 : Int32) (q40 : Sq) (t2 : Ct y_F_mustBeRule c_F_mustBeRule 2 none rm_F_mustBeRule G [.ref (xa σ 0), .int x1] (WC G σ) (eqp (none) (WC G σ))) (e10 : x1 = nI n10) (h10 : n10 < 16) (c15 : ¬ (altC σ n10) = 8) (t32 : Ct y_S_outdate c_S_outdate 1 none rm_S_outdate G [.ref (xa σ 5)] (WC G σ) (eqp (none) (WC G (xa σ, q32)))) (t40 : Ct y_G_addAlternative c_G_addAlternative 2 (some .int) rm_G_addAlternative G [.ref (xa σ 1), .int x1] (WC G (xa σ, q32)) (eqp (some (.int r40)) (WC G (xa σ, q40)))) : Ct y_F_alternative c_F_alternative 2 (some .int) rm_F_alternative G [.ref (xa σ 0), .int x1] (WC G σ) (eqp (some (.int r40)) (WC G (xa σ, q40))) := by
  refine Ct.of (by decide +kernel) (Nat.le_of_ble_eq_true rfl) (fun K X => ?_)
  show Lb K G _ _ 2 0 [(0, .ref (xa σ 0)), (1, .int x1)] [] _ 0 0
  refine b_aload_n X d_F_alternative_0 0 rfl rfl ?_
  refine b_iload_n X d_F_alternative_1 1 rfl rfl ?_
  refine b_dV X cf_F_mustBeRule ci_F_mustBeRule ml_F_86 t2 0 rfl rfl (As := [.int x1]) (rest := []) rfl (Nat.le_of_ble_eq_true rfl) ⟨Nat.le_of_ble_eq_true rfl, Nat.le_of_ble_eq_true rfl⟩ ⟨Nat.le_of_ble_eq_true rfl, Nat.le_of_ble_eq_true rfl⟩ rfl rfl d_F_alternative_2 ?_
  refine b_aload_n X d_F_alternative_5 0 rfl rfl ?_
  refine b_get X fl_F_12 0 rfl (v := .ref (xa σ 1)) rfl d_F_alternative_6 ?_
  refine b_iload_n X d_F_alternative_9 1 rfl rfl ?_
  refine b_dV X cf_G_alternatives ci_G_alternatives ml_F_90 (ct_G_alternatives G σ x1 n10 e10 h10) 1 rfl rfl (As := [.int x1]) (rest := []) rfl (Nat.le_of_ble_eq_true rfl) ⟨Nat.le_of_ble_eq_true rfl, Nat.le_of_ble_eq_true rfl⟩ ⟨Nat.le_of_ble_eq_true rfl, Nat.le_of_ble_eq_true rfl⟩ rfl rfl d_F_alternative_10 ?_
  refine b_bipush X (v := 8) d_F_alternative_13 (by decide) ?_
  refine b_icmp_ne X (tgt := 28) d_F_alternative_15 (by decide) (fun _ => ?_) (fun h => absurd h c15)
  refine b_aload_n X d_F_alternative_28 0 rfl rfl ?_
  refine b_get X fl_F_21 0 rfl (v := .ref (xa σ 5)) rfl d_F_alternative_29 ?_
  refine b_dV X cf_S_outdate ci_S_outdate ml_F_80 t32 5 rfl rfl (As := []) (rest := []) rfl (Nat.le_of_ble_eq_true rfl) ⟨Nat.le_of_ble_eq_true rfl, Nat.le_of_ble_eq_true rfl⟩ ⟨Nat.le_of_ble_eq_true rfl, Nat.le_of_ble_eq_true rfl⟩ rfl rfl d_F_alternative_32 ?_
  refine b_aload_n X d_F_alternative_35 0 rfl rfl ?_
  refine b_get X fl_F_12 0 rfl (v := .ref (xa σ 1)) rfl d_F_alternative_36 ?_
  refine b_iload_n X d_F_alternative_39 1 rfl rfl ?_
  refine b_dV X cf_G_addAlternative ci_G_addAlternative ml_F_96 t40 1 rfl rfl (As := [.int x1]) (rest := []) rfl (Nat.le_of_ble_eq_true rfl) ⟨Nat.le_of_ble_eq_true rfl, Nat.le_of_ble_eq_true rfl⟩ ⟨Nat.le_of_ble_eq_true rfl, Nat.le_of_ble_eq_true rfl⟩ rfl rfl d_F_alternative_40 ?_
  exact b_iret X d_F_alternative_43 ⟨rfl, rfl⟩
theorem cz_F_alternative_f (G : GG) (σ : St) (x1 : Int32) (n10 : Nat) (t2 : Ct y_F_mustBeRule c_F_mustBeRule 2 none rm_F_mustBeRule G [.ref (xa σ 0), .int x1] (WC G σ) (eqp (none) (WC G σ))) (e10 : x1 = nI n10) (h10 : n10 < 16) (c15 : (altC σ n10) = 8) : CtT y_F_alternative c_F_alternative 2 (some .int) rmt_F_alternative G [.ref (xa σ 0), .int x1] (WC G σ) "java/lang/UnsupportedOperationException" (fun w' => w' = (WC G σ)) := by
  refine CtT.of (by decide +kernel) (Nat.le_of_ble_eq_true rfl) (fun K X hex => ?_)
  show Lb K G _ _ 2 0 [(0, .ref (xa σ 0)), (1, .int x1)] [] _ 0 0
  refine b_aload_n X d_F_alternative_0 0 rfl rfl ?_
  refine b_iload_n X d_F_alternative_1 1 rfl rfl ?_
  refine b_dV X cf_F_mustBeRule ci_F_mustBeRule ml_F_86 t2 0 rfl rfl (As := [.int x1]) (rest := []) rfl (Nat.le_of_ble_eq_true rfl) ⟨Nat.le_of_ble_eq_true rfl, Nat.le_of_ble_eq_true rfl⟩ ⟨Nat.le_of_ble_eq_true rfl, Nat.le_of_ble_eq_true rfl⟩ rfl rfl d_F_alternative_2 ?_
  refine b_aload_n X d_F_alternative_5 0 rfl rfl ?_
  refine b_get X fl_F_12 0 rfl (v := .ref (xa σ 1)) rfl d_F_alternative_6 ?_
  refine b_iload_n X d_F_alternative_9 1 rfl rfl ?_
  refine b_dV X cf_G_alternatives ci_G_alternatives ml_F_90 (ct_G_alternatives G σ x1 n10 e10 h10) 1 rfl rfl (As := [.int x1]) (rest := []) rfl (Nat.le_of_ble_eq_true rfl) ⟨Nat.le_of_ble_eq_true rfl, Nat.le_of_ble_eq_true rfl⟩ ⟨Nat.le_of_ble_eq_true rfl, Nat.le_of_ble_eq_true rfl⟩ rfl rfl d_F_alternative_10 ?_
  refine b_bipush X (v := 8) d_F_alternative_13 (by decide) ?_
  refine b_icmp_ne X (tgt := 28) d_F_alternative_15 (by decide) (fun h => absurd c15 h) (fun _ => ?_)
  exact b_throw X hex at_UnsupportedOperationException ⟨by decide +kernel, by decide +kernel⟩ (ws_t 377 (by decide +kernel) rfl) (ws_t 378 (by decide +kernel) rfl) (ws_t 13 (by decide +kernel) rfl) (tx := "there are 8 alternatives") (List.mem_of_getElem? (i := 2) rfl) ⟨Nat.le_of_ble_eq_true rfl, Nat.le_of_ble_eq_true rfl, Nat.le_of_ble_eq_true rfl, Nat.le_of_ble_eq_true rfl⟩ d_F_alternative_18 d_F_alternative_21 d_F_alternative_22 d_F_alternative_24 d_F_alternative_27 rfl
theorem cz_F_alternative_z2 (G : GG) (σ : St) (x1 : Int32)  (z2 : CtT y_F_mustBeRule c_F_mustBeRule 2 none rmt_F_mustBeRule G [.ref (xa σ 0), .int x1] (WC G σ) "java/lang/IndexOutOfBoundsException" (fun w' => w' = WC G σ)) : CtT y_F_alternative c_F_alternative 2 (some .int) rmt_F_alternative G [.ref (xa σ 0), .int x1] (WC G σ) "java/lang/IndexOutOfBoundsException" (fun w' => w' = (WC G σ)) := by
  refine CtT.of (by decide +kernel) (Nat.le_of_ble_eq_true rfl) (fun K X hex => ?_)
  show Lb K G _ _ 2 0 [(0, .ref (xa σ 0)), (1, .int x1)] [] _ 0 0
  refine b_aload_n X d_F_alternative_0 0 rfl rfl ?_
  refine b_iload_n X d_F_alternative_1 1 rfl rfl ?_
  refine b_callT X cf_F_mustBeRule ci_F_mustBeRule ml_F_86 z2 0 rfl rfl (As := [.int x1]) (rest := []) rfl (Nat.le_of_ble_eq_true rfl) ⟨Nat.le_of_ble_eq_true rfl, Nat.le_of_ble_eq_true rfl⟩ ⟨Nat.le_of_ble_eq_true rfl, Nat.le_of_ble_eq_true rfl⟩ rfl d_F_alternative_2 (fun w' h => ?_)
  subst h
  exact b_out X hex rfl ⟨Nat.le_of_ble_eq_true rfl, Nat.le_of_ble_eq_true rfl⟩
theorem cz_F_symbol_t (G : GG) (σ : St) (x1 : Int32) (x2 : Int32)  (t2 : Ct y_F_mustBeRule c_F_mustBeRule 2 none rm_F_mustBeRule G [.ref (xa σ 0), .int x1] (WC G σ) (eqp (none) (WC G σ))) (c8 : x2 < (-16)) : CtT y_F_symbol c_F_symbol 3 (some .int) rmt_F_symbol G [.ref (xa σ 0), .int x1, .int x2] (WC G σ) "java/lang/IllegalArgumentException" (fun w' => w' = (WC G σ)) := by
  refine CtT.of (by decide +kernel) (Nat.le_of_ble_eq_true rfl) (fun K X hex => ?_)
  show Lb K G _ _ 3 0 [(0, .ref (xa σ 0)), (1, .int x1), (2, .int x2)] [] _ 0 0
  refine b_aload_n X d_F_symbol_0 0 rfl rfl ?_
  refine b_iload_n X d_F_symbol_1 1 rfl rfl ?_
  refine b_dV X cf_F_mustBeRule ci_F_mustBeRule ml_F_86 t2 0 rfl rfl (As := [.int x1]) (rest := []) rfl (Nat.le_of_ble_eq_true rfl) ⟨Nat.le_of_ble_eq_true rfl, Nat.le_of_ble_eq_true rfl⟩ ⟨Nat.le_of_ble_eq_true rfl, Nat.le_of_ble_eq_true rfl⟩ rfl rfl d_F_symbol_2 ?_
  refine b_iload_n X d_F_symbol_5 2 rfl rfl ?_
  refine b_bipush X (v := (-16)) d_F_symbol_6 (by decide) ?_
  refine b_icmp_lt X (tgt := 17) d_F_symbol_8 (by decide) (fun _ => ?_) (fun h => absurd c8 h)
  exact b_throw X hex at_IllegalArgumentException ⟨by decide +kernel, by decide +kernel⟩ (ws_t 498 (by decide +kernel) rfl) (ws_t 499 (by decide +kernel) rfl) (ws_t 15 (by decide +kernel) rfl) (tx := "no such symbol") (List.mem_of_getElem? (i := 3) rfl) ⟨Nat.le_of_ble_eq_true rfl, Nat.le_of_ble_eq_true rfl, Nat.le_of_ble_eq_true rfl, Nat.le_of_ble_eq_true rfl⟩ d_F_symbol_17 d_F_symbol_20 d_F_symbol_21 d_F_symbol_23 d_F_symbol_26 rfl
theorem ct_F_symbol_fttt (G : GG) (σ : St) (x1 : Int32) (x2 : Int32) (n32 : Nat) (r57 : Int32) (n60 : Nat) (q82 : Sq) (r91 : Int32) (q91 : Sq) (t2 : Ct y_F_mustBeRule c_F_mustBeRule 2 none rm_F_mustBeRule G [.ref (xa σ 0), .int x1] (WC G σ) (eqp (none) (WC G σ))) (c8 : ¬ x2 < (-16)) (c14 : x2 < 32) (e32 : x1 = nI n32) (h32 : n32 < 16) (c35 : ¬ (altC σ n32) = 0) (t57 : Ct y_G_latestRow c_G_latestRow 2 (some .int) rm_G_latestRow G [.ref (xa σ 1), .int x1] (WC G σ) (eqp (some (.int r57)) (WC G σ))) (e60 : r57 = nI n60) (h60 : n60 < 128) (c65 : ¬ (xi σ 3 n60) = 8) (t82 : Ct y_S_outdate c_S_outdate 1 none rm_S_outdate G [.ref (xa σ 5)] (WC G σ) (eqp (none) (WC G (xa σ, q82)))) (t91 : Ct y_G_addSymbol c_G_addSymbol 4 (some .int) rm_G_addSymbol G [.ref (xa σ 1), .int x1, .int x2] (WC G (xa σ, q82)) (eqp (some (.int r91)) (WC G (xa σ, q91)))) : Ct y_F_symbol c_F_symbol 3 (some .int) rm_F_symbol G [.ref (xa σ 0), .int x1, .int x2] (WC G σ) (eqp (some (.int r91)) (WC G (xa σ, q91))) := by
  refine Ct.of (by decide +kernel) (Nat.le_of_ble_eq_true rfl) (fun K X => ?_)
  show Lb K G _ _ 3 0 [(0, .ref (xa σ 0)), (1, .int x1), (2, .int x2)] [] _ 0 0
  refine b_aload_n X d_F_symbol_0 0 rfl rfl ?_
  refine b_iload_n X d_F_symbol_1 1 rfl rfl ?_
  refine b_dV X cf_F_mustBeRule ci_F_mustBeRule ml_F_86 t2 0 rfl rfl (As := [.int x1]) (rest := []) rfl (Nat.le_of_ble_eq_true rfl) ⟨Nat.le_of_ble_eq_true rfl, Nat.le_of_ble_eq_true rfl⟩ ⟨Nat.le_of_ble_eq_true rfl, Nat.le_of_ble_eq_true rfl⟩ rfl rfl d_F_symbol_2 ?_
  refine b_iload_n X d_F_symbol_5 2 rfl rfl ?_
  refine b_bipush X (v := (-16)) d_F_symbol_6 (by decide) ?_
  refine b_icmp_lt X (tgt := 17) d_F_symbol_8 (by decide) (fun h => absurd h c8) (fun _ => ?_)
  refine b_iload_n X d_F_symbol_11 2 rfl rfl ?_
  refine b_bipush X (v := 32) d_F_symbol_12 (by decide) ?_
  refine b_icmp_lt X (tgt := 27) d_F_symbol_14 (by decide) (fun _ => ?_) (fun h => absurd c14 h)
  refine b_aload_n X d_F_symbol_27 0 rfl rfl ?_
  refine b_get X fl_F_12 0 rfl (v := .ref (xa σ 1)) rfl d_F_symbol_28 ?_
  refine b_iload_n X d_F_symbol_31 1 rfl rfl ?_
  refine b_dV X cf_G_alternatives ci_G_alternatives ml_F_90 (ct_G_alternatives G σ x1 n32 e32 h32) 1 rfl rfl (As := [.int x1]) (rest := []) rfl (Nat.le_of_ble_eq_true rfl) ⟨Nat.le_of_ble_eq_true rfl, Nat.le_of_ble_eq_true rfl⟩ ⟨Nat.le_of_ble_eq_true rfl, Nat.le_of_ble_eq_true rfl⟩ rfl rfl d_F_symbol_32 ?_
  refine b_if_ne X (tgt := 48) d_F_symbol_35 (by decide) (fun _ => ?_) (fun h => absurd h c35)
  refine b_aload_n X d_F_symbol_48 0 rfl rfl ?_
  refine b_get X fl_F_12 0 rfl (v := .ref (xa σ 1)) rfl d_F_symbol_49 ?_
  refine b_aload_n X d_F_symbol_52 0 rfl rfl ?_
  refine b_get X fl_F_12 0 rfl (v := .ref (xa σ 1)) rfl d_F_symbol_53 ?_
  refine b_iload_n X d_F_symbol_56 1 rfl rfl ?_
  refine b_dV X cf_G_latestRow ci_G_latestRow ml_F_109 t57 1 rfl rfl (As := [.int x1]) (rest := [.ref (xa σ 1)]) rfl (Nat.le_of_ble_eq_true rfl) ⟨Nat.le_of_ble_eq_true rfl, Nat.le_of_ble_eq_true rfl⟩ ⟨Nat.le_of_ble_eq_true rfl, Nat.le_of_ble_eq_true rfl⟩ rfl rfl d_F_symbol_57 ?_
  refine b_dV X cf_G_length ci_G_length ml_F_112 (ct_G_length_ G σ r57 n60 e60 h60) 1 rfl rfl (As := [.int r57]) (rest := []) rfl (Nat.le_of_ble_eq_true rfl) ⟨Nat.le_of_ble_eq_true rfl, Nat.le_of_ble_eq_true rfl⟩ ⟨Nat.le_of_ble_eq_true rfl, Nat.le_of_ble_eq_true rfl⟩ rfl rfl d_F_symbol_60 ?_
  refine b_bipush X (v := 8) d_F_symbol_63 (by decide) ?_
  refine b_icmp_ne X (tgt := 78) d_F_symbol_65 (by decide) (fun _ => ?_) (fun h => absurd h c65)
  refine b_aload_n X d_F_symbol_78 0 rfl rfl ?_
  refine b_get X fl_F_21 0 rfl (v := .ref (xa σ 5)) rfl d_F_symbol_79 ?_
  refine b_dV X cf_S_outdate ci_S_outdate ml_F_80 t82 5 rfl rfl (As := []) (rest := []) rfl (Nat.le_of_ble_eq_true rfl) ⟨Nat.le_of_ble_eq_true rfl, Nat.le_of_ble_eq_true rfl⟩ ⟨Nat.le_of_ble_eq_true rfl, Nat.le_of_ble_eq_true rfl⟩ rfl rfl d_F_symbol_82 ?_
  refine b_aload_n X d_F_symbol_85 0 rfl rfl ?_
  refine b_get X fl_F_12 0 rfl (v := .ref (xa σ 1)) rfl d_F_symbol_86 ?_
  refine b_iload_n X d_F_symbol_89 1 rfl rfl ?_
  refine b_iload_n X d_F_symbol_90 2 rfl rfl ?_
  refine b_dV X cf_G_addSymbol ci_G_addSymbol ml_F_117 t91 1 rfl rfl (As := [.int x1, .int x2]) (rest := []) rfl (Nat.le_of_ble_eq_true rfl) ⟨Nat.le_of_ble_eq_true rfl, Nat.le_of_ble_eq_true rfl⟩ ⟨Nat.le_of_ble_eq_true rfl, Nat.le_of_ble_eq_true rfl⟩ rfl rfl d_F_symbol_91 ?_
  exact b_iret X d_F_symbol_94 ⟨rfl, rfl⟩
theorem cz_F_symbol_fttf (G : GG) (σ : St) (x1 : Int32) (x2 : Int32) (n32 : Nat) (r57 : Int32) (n60 : Nat) (t2 : Ct y_F_mustBeRule c_F_mustBeRule 2 none rm_F_mustBeRule G [.ref (xa σ 0), .int x1] (WC G σ) (eqp (none) (WC G σ))) (c8 : ¬ x2 < (-16)) (c14 : x2 < 32) (e32 : x1 = nI n32) (h32 : n32 < 16) (c35 : ¬ (altC σ n32) = 0) (t57 : Ct y_G_latestRow c_G_latestRow 2 (some .int) rm_G_latestRow G [.ref (xa σ 1), .int x1] (WC G σ) (eqp (some (.int r57)) (WC G σ))) (e60 : r57 = nI n60) (h60 : n60 < 128) (c65 : (xi σ 3 n60) = 8) : CtT y_F_symbol c_F_symbol 3 (some .int) rmt_F_symbol G [.ref (xa σ 0), .int x1, .int x2] (WC G σ) "java/lang/UnsupportedOperationException" (fun w' => w' = (WC G σ)) := by
  refine CtT.of (by decide +kernel) (Nat.le_of_ble_eq_true rfl) (fun K X hex => ?_)
  show Lb K G _ _ 3 0 [(0, .ref (xa σ 0)), (1, .int x1), (2, .int x2)] [] _ 0 0
  refine b_aload_n X d_F_symbol_0 0 rfl rfl ?_
  refine b_iload_n X d_F_symbol_1 1 rfl rfl ?_
  refine b_dV X cf_F_mustBeRule ci_F_mustBeRule ml_F_86 t2 0 rfl rfl (As := [.int x1]) (rest := []) rfl (Nat.le_of_ble_eq_true rfl) ⟨Nat.le_of_ble_eq_true rfl, Nat.le_of_ble_eq_true rfl⟩ ⟨Nat.le_of_ble_eq_true rfl, Nat.le_of_ble_eq_true rfl⟩ rfl rfl d_F_symbol_2 ?_
  refine b_iload_n X d_F_symbol_5 2 rfl rfl ?_
  refine b_bipush X (v := (-16)) d_F_symbol_6 (by decide) ?_
  refine b_icmp_lt X (tgt := 17) d_F_symbol_8 (by decide) (fun h => absurd h c8) (fun _ => ?_)
  refine b_iload_n X d_F_symbol_11 2 rfl rfl ?_
  refine b_bipush X (v := 32) d_F_symbol_12 (by decide) ?_
  refine b_icmp_lt X (tgt := 27) d_F_symbol_14 (by decide) (fun _ => ?_) (fun h => absurd c14 h)
  refine b_aload_n X d_F_symbol_27 0 rfl rfl ?_
  refine b_get X fl_F_12 0 rfl (v := .ref (xa σ 1)) rfl d_F_symbol_28 ?_
  refine b_iload_n X d_F_symbol_31 1 rfl rfl ?_
  refine b_dV X cf_G_alternatives ci_G_alternatives ml_F_90 (ct_G_alternatives G σ x1 n32 e32 h32) 1 rfl rfl (As := [.int x1]) (rest := []) rfl (Nat.le_of_ble_eq_true rfl) ⟨Nat.le_of_ble_eq_true rfl, Nat.le_of_ble_eq_true rfl⟩ ⟨Nat.le_of_ble_eq_true rfl, Nat.le_of_ble_eq_true rfl⟩ rfl rfl d_F_symbol_32 ?_
  refine b_if_ne X (tgt := 48) d_F_symbol_35 (by decide) (fun _ => ?_) (fun h => absurd h c35)
  refine b_aload_n X d_F_symbol_48 0 rfl rfl ?_
  refine b_get X fl_F_12 0 rfl (v := .ref (xa σ 1)) rfl d_F_symbol_49 ?_
  refine b_aload_n X d_F_symbol_52 0 rfl rfl ?_
  refine b_get X fl_F_12 0 rfl (v := .ref (xa σ 1)) rfl d_F_symbol_53 ?_
  refine b_iload_n X d_F_symbol_56 1 rfl rfl ?_
  refine b_dV X cf_G_latestRow ci_G_latestRow ml_F_109 t57 1 rfl rfl (As := [.int x1]) (rest := [.ref (xa σ 1)]) rfl (Nat.le_of_ble_eq_true rfl) ⟨Nat.le_of_ble_eq_true rfl, Nat.le_of_ble_eq_true rfl⟩ ⟨Nat.le_of_ble_eq_true rfl, Nat.le_of_ble_eq_true rfl⟩ rfl rfl d_F_symbol_57 ?_
  refine b_dV X cf_G_length ci_G_length ml_F_112 (ct_G_length_ G σ r57 n60 e60 h60) 1 rfl rfl (As := [.int r57]) (rest := []) rfl (Nat.le_of_ble_eq_true rfl) ⟨Nat.le_of_ble_eq_true rfl, Nat.le_of_ble_eq_true rfl⟩ ⟨Nat.le_of_ble_eq_true rfl, Nat.le_of_ble_eq_true rfl⟩ rfl rfl d_F_symbol_60 ?_
  refine b_bipush X (v := 8) d_F_symbol_63 (by decide) ?_
  refine b_icmp_ne X (tgt := 78) d_F_symbol_65 (by decide) (fun h => absurd c65 h) (fun _ => ?_)
  exact b_throw X hex at_UnsupportedOperationException ⟨by decide +kernel, by decide +kernel⟩ (ws_t 377 (by decide +kernel) rfl) (ws_t 378 (by decide +kernel) rfl) (ws_t 13 (by decide +kernel) rfl) (tx := "there are 8 symbols") (List.mem_of_getElem? (i := 5) rfl) ⟨Nat.le_of_ble_eq_true rfl, Nat.le_of_ble_eq_true rfl, Nat.le_of_ble_eq_true rfl, Nat.le_of_ble_eq_true rfl⟩ d_F_symbol_68 d_F_symbol_71 d_F_symbol_72 d_F_symbol_74 d_F_symbol_77 rfl
theorem cz_F_symbol_ftf (G : GG) (σ : St) (x1 : Int32) (x2 : Int32) (n32 : Nat) (t2 : Ct y_F_mustBeRule c_F_mustBeRule 2 none rm_F_mustBeRule G [.ref (xa σ 0), .int x1] (WC G σ) (eqp (none) (WC G σ))) (c8 : ¬ x2 < (-16)) (c14 : x2 < 32) (e32 : x1 = nI n32) (h32 : n32 < 16) (c35 : (altC σ n32) = 0) : CtT y_F_symbol c_F_symbol 3 (some .int) rmt_F_symbol G [.ref (xa σ 0), .int x1, .int x2] (WC G σ) "java/lang/IllegalStateException" (fun w' => w' = (WC G σ)) := by
  refine CtT.of (by decide +kernel) (Nat.le_of_ble_eq_true rfl) (fun K X hex => ?_)
  show Lb K G _ _ 3 0 [(0, .ref (xa σ 0)), (1, .int x1), (2, .int x2)] [] _ 0 0
  refine b_aload_n X d_F_symbol_0 0 rfl rfl ?_
  refine b_iload_n X d_F_symbol_1 1 rfl rfl ?_
  refine b_dV X cf_F_mustBeRule ci_F_mustBeRule ml_F_86 t2 0 rfl rfl (As := [.int x1]) (rest := []) rfl (Nat.le_of_ble_eq_true rfl) ⟨Nat.le_of_ble_eq_true rfl, Nat.le_of_ble_eq_true rfl⟩ ⟨Nat.le_of_ble_eq_true rfl, Nat.le_of_ble_eq_true rfl⟩ rfl rfl d_F_symbol_2 ?_
  refine b_iload_n X d_F_symbol_5 2 rfl rfl ?_
  refine b_bipush X (v := (-16)) d_F_symbol_6 (by decide) ?_
  refine b_icmp_lt X (tgt := 17) d_F_symbol_8 (by decide) (fun h => absurd h c8) (fun _ => ?_)
  refine b_iload_n X d_F_symbol_11 2 rfl rfl ?_
  refine b_bipush X (v := 32) d_F_symbol_12 (by decide) ?_
  refine b_icmp_lt X (tgt := 27) d_F_symbol_14 (by decide) (fun _ => ?_) (fun h => absurd c14 h)
  refine b_aload_n X d_F_symbol_27 0 rfl rfl ?_
  refine b_get X fl_F_12 0 rfl (v := .ref (xa σ 1)) rfl d_F_symbol_28 ?_
  refine b_iload_n X d_F_symbol_31 1 rfl rfl ?_
  refine b_dV X cf_G_alternatives ci_G_alternatives ml_F_90 (ct_G_alternatives G σ x1 n32 e32 h32) 1 rfl rfl (As := [.int x1]) (rest := []) rfl (Nat.le_of_ble_eq_true rfl) ⟨Nat.le_of_ble_eq_true rfl, Nat.le_of_ble_eq_true rfl⟩ ⟨Nat.le_of_ble_eq_true rfl, Nat.le_of_ble_eq_true rfl⟩ rfl rfl d_F_symbol_32 ?_
  refine b_if_ne X (tgt := 48) d_F_symbol_35 (by decide) (fun h => absurd c35 h) (fun _ => ?_)
  exact b_throw X hex at_IllegalStateException ⟨by decide +kernel, by decide +kernel⟩ (ws_t 514 (by decide +kernel) rfl) (ws_t 515 (by decide +kernel) rfl) (ws_t 16 (by decide +kernel) rfl) (tx := "the rule has no alternative") (List.mem_of_getElem? (i := 4) rfl) ⟨Nat.le_of_ble_eq_true rfl, Nat.le_of_ble_eq_true rfl, Nat.le_of_ble_eq_true rfl, Nat.le_of_ble_eq_true rfl⟩ d_F_symbol_38 d_F_symbol_41 d_F_symbol_42 d_F_symbol_44 d_F_symbol_47 rfl
theorem cz_F_symbol_ff (G : GG) (σ : St) (x1 : Int32) (x2 : Int32)  (t2 : Ct y_F_mustBeRule c_F_mustBeRule 2 none rm_F_mustBeRule G [.ref (xa σ 0), .int x1] (WC G σ) (eqp (none) (WC G σ))) (c8 : ¬ x2 < (-16)) (c14 : ¬ x2 < 32) : CtT y_F_symbol c_F_symbol 3 (some .int) rmt_F_symbol G [.ref (xa σ 0), .int x1, .int x2] (WC G σ) "java/lang/IllegalArgumentException" (fun w' => w' = (WC G σ)) := by
  refine CtT.of (by decide +kernel) (Nat.le_of_ble_eq_true rfl) (fun K X hex => ?_)
  show Lb K G _ _ 3 0 [(0, .ref (xa σ 0)), (1, .int x1), (2, .int x2)] [] _ 0 0
  refine b_aload_n X d_F_symbol_0 0 rfl rfl ?_
  refine b_iload_n X d_F_symbol_1 1 rfl rfl ?_
  refine b_dV X cf_F_mustBeRule ci_F_mustBeRule ml_F_86 t2 0 rfl rfl (As := [.int x1]) (rest := []) rfl (Nat.le_of_ble_eq_true rfl) ⟨Nat.le_of_ble_eq_true rfl, Nat.le_of_ble_eq_true rfl⟩ ⟨Nat.le_of_ble_eq_true rfl, Nat.le_of_ble_eq_true rfl⟩ rfl rfl d_F_symbol_2 ?_
  refine b_iload_n X d_F_symbol_5 2 rfl rfl ?_
  refine b_bipush X (v := (-16)) d_F_symbol_6 (by decide) ?_
  refine b_icmp_lt X (tgt := 17) d_F_symbol_8 (by decide) (fun h => absurd h c8) (fun _ => ?_)
  refine b_iload_n X d_F_symbol_11 2 rfl rfl ?_
  refine b_bipush X (v := 32) d_F_symbol_12 (by decide) ?_
  refine b_icmp_lt X (tgt := 27) d_F_symbol_14 (by decide) (fun h => absurd h c14) (fun _ => ?_)
  exact b_throw X hex at_IllegalArgumentException ⟨by decide +kernel, by decide +kernel⟩ (ws_t 498 (by decide +kernel) rfl) (ws_t 499 (by decide +kernel) rfl) (ws_t 15 (by decide +kernel) rfl) (tx := "no such symbol") (List.mem_of_getElem? (i := 3) rfl) ⟨Nat.le_of_ble_eq_true rfl, Nat.le_of_ble_eq_true rfl, Nat.le_of_ble_eq_true rfl, Nat.le_of_ble_eq_true rfl⟩ d_F_symbol_17 d_F_symbol_20 d_F_symbol_21 d_F_symbol_23 d_F_symbol_26 rfl
theorem cz_F_symbol_z2 (G : GG) (σ : St) (x1 : Int32) (x2 : Int32)  (z2 : CtT y_F_mustBeRule c_F_mustBeRule 2 none rmt_F_mustBeRule G [.ref (xa σ 0), .int x1] (WC G σ) "java/lang/IndexOutOfBoundsException" (fun w' => w' = WC G σ)) : CtT y_F_symbol c_F_symbol 3 (some .int) rmt_F_symbol G [.ref (xa σ 0), .int x1, .int x2] (WC G σ) "java/lang/IndexOutOfBoundsException" (fun w' => w' = (WC G σ)) := by
  refine CtT.of (by decide +kernel) (Nat.le_of_ble_eq_true rfl) (fun K X hex => ?_)
  show Lb K G _ _ 3 0 [(0, .ref (xa σ 0)), (1, .int x1), (2, .int x2)] [] _ 0 0
  refine b_aload_n X d_F_symbol_0 0 rfl rfl ?_
  refine b_iload_n X d_F_symbol_1 1 rfl rfl ?_
  refine b_callT X cf_F_mustBeRule ci_F_mustBeRule ml_F_86 z2 0 rfl rfl (As := [.int x1]) (rest := []) rfl (Nat.le_of_ble_eq_true rfl) ⟨Nat.le_of_ble_eq_true rfl, Nat.le_of_ble_eq_true rfl⟩ ⟨Nat.le_of_ble_eq_true rfl, Nat.le_of_ble_eq_true rfl⟩ rfl d_F_symbol_2 (fun w' h => ?_)
  subst h
  exact b_out X hex rfl ⟨Nat.le_of_ble_eq_true rfl, Nat.le_of_ble_eq_true rfl⟩
theorem ct_F_clear_ (G : GG) (σ : St)  (q4 : Sq) (r11 : Int32) (q11 : Sq) (t4 : Ct y_S_outdate c_S_outdate 1 none rm_S_outdate G [.ref (xa σ 5)] (WC G σ) (eqp (none) (WC G (xa σ, q4)))) (t11 : Ct y_G_loseRules c_G_loseRules 2 (some .int) rm_G_loseRules G [.ref (xa σ 1)] (WC G (xa σ, q4)) (eqp (some (.int r11)) (WC G (xa σ, q11)))) : Ct y_F_clear c_F_clear 1 (some .int) rm_F_clear G [.ref (xa σ 0)] (WC G σ) (eqp (some (.int r11)) (WC G (xa σ, q11))) := by
  refine Ct.of (by decide +kernel) (Nat.le_of_ble_eq_true rfl) (fun K X => ?_)
  show Lb K G _ _ 1 0 [(0, .ref (xa σ 0))] [] _ 0 0
  refine b_aload_n X d_F_clear_0 0 rfl rfl ?_
  refine b_get X fl_F_21 0 rfl (v := .ref (xa σ 5)) rfl d_F_clear_1 ?_
  refine b_dV X cf_S_outdate ci_S_outdate ml_F_80 t4 5 rfl rfl (As := []) (rest := []) rfl (Nat.le_of_ble_eq_true rfl) ⟨Nat.le_of_ble_eq_true rfl, Nat.le_of_ble_eq_true rfl⟩ ⟨Nat.le_of_ble_eq_true rfl, Nat.le_of_ble_eq_true rfl⟩ rfl rfl d_F_clear_4 ?_
  refine b_aload_n X d_F_clear_7 0 rfl rfl ?_
  refine b_get X fl_F_12 0 rfl (v := .ref (xa σ 1)) rfl d_F_clear_8 ?_
  refine b_dV X cf_G_loseRules ci_G_loseRules ml_F_121 t11 1 rfl rfl (As := []) (rest := []) rfl (Nat.le_of_ble_eq_true rfl) ⟨Nat.le_of_ble_eq_true rfl, Nat.le_of_ble_eq_true rfl⟩ ⟨Nat.le_of_ble_eq_true rfl, Nat.le_of_ble_eq_true rfl⟩ rfl rfl d_F_clear_11 ?_
  exact b_iret X d_F_clear_14 ⟨rfl, rfl⟩
theorem ct_F_fault_ (G : GG) (σ : St)  (q4 : Sq) (t4 : Ct y_S_bringUpToDate c_S_bringUpToDate 1 none rm_S_bringUpToDate G [.ref (xa σ 5)] (WC G σ) (eqp (none) (WC G (xa σ, q4)))) : Ct y_F_fault c_F_fault 1 (some .int) rm_F_fault G [.ref (xa σ 0)] (WC G σ) (eqp (some (.int (xi (xa σ, q4) 5 1))) (WC G (xa σ, q4))) := by
  refine Ct.of (by decide +kernel) (Nat.le_of_ble_eq_true rfl) (fun K X => ?_)
  show Lb K G _ _ 1 0 [(0, .ref (xa σ 0))] [] _ 0 0
  refine b_aload_n X d_F_fault_0 0 rfl rfl ?_
  refine b_get X fl_F_21 0 rfl (v := .ref (xa σ 5)) rfl d_F_fault_1 ?_
  refine b_dV X cf_S_bringUpToDate ci_S_bringUpToDate ml_F_124 t4 5 rfl rfl (As := []) (rest := []) rfl (Nat.le_of_ble_eq_true rfl) ⟨Nat.le_of_ble_eq_true rfl, Nat.le_of_ble_eq_true rfl⟩ ⟨Nat.le_of_ble_eq_true rfl, Nat.le_of_ble_eq_true rfl⟩ rfl rfl d_F_fault_4 ?_
  refine b_aload_n X d_F_fault_7 0 rfl rfl ?_
  refine b_get X fl_F_21 0 rfl (v := .ref (xa σ 5)) rfl d_F_fault_8 ?_
  refine b_dV X cf_S_faultKind ci_S_faultKind ml_F_127 (ct_S_faultKind_ G (xa σ, q4) ) 5 rfl rfl (As := []) (rest := []) rfl (Nat.le_of_ble_eq_true rfl) ⟨Nat.le_of_ble_eq_true rfl, Nat.le_of_ble_eq_true rfl⟩ ⟨Nat.le_of_ble_eq_true rfl, Nat.le_of_ble_eq_true rfl⟩ rfl rfl d_F_fault_11 ?_
  exact b_iret X d_F_fault_14 ⟨rfl, rfl⟩
theorem ct_F_faulty_ (G : GG) (σ : St)  (q4 : Sq) (t4 : Ct y_S_bringUpToDate c_S_bringUpToDate 1 none rm_S_bringUpToDate G [.ref (xa σ 5)] (WC G σ) (eqp (none) (WC G (xa σ, q4)))) : Ct y_F_faulty c_F_faulty 1 (some .int) rm_F_faulty G [.ref (xa σ 0)] (WC G σ) (eqp (some (.int (xi (xa σ, q4) 5 2))) (WC G (xa σ, q4))) := by
  refine Ct.of (by decide +kernel) (Nat.le_of_ble_eq_true rfl) (fun K X => ?_)
  show Lb K G _ _ 1 0 [(0, .ref (xa σ 0))] [] _ 0 0
  refine b_aload_n X d_F_faulty_0 0 rfl rfl ?_
  refine b_get X fl_F_21 0 rfl (v := .ref (xa σ 5)) rfl d_F_faulty_1 ?_
  refine b_dV X cf_S_bringUpToDate ci_S_bringUpToDate ml_F_124 t4 5 rfl rfl (As := []) (rest := []) rfl (Nat.le_of_ble_eq_true rfl) ⟨Nat.le_of_ble_eq_true rfl, Nat.le_of_ble_eq_true rfl⟩ ⟨Nat.le_of_ble_eq_true rfl, Nat.le_of_ble_eq_true rfl⟩ rfl rfl d_F_faulty_4 ?_
  refine b_aload_n X d_F_faulty_7 0 rfl rfl ?_
  refine b_get X fl_F_21 0 rfl (v := .ref (xa σ 5)) rfl d_F_faulty_8 ?_
  refine b_dV X cf_S_faultyRule ci_S_faultyRule ml_F_130 (ct_S_faultyRule_ G (xa σ, q4) ) 5 rfl rfl (As := []) (rest := []) rfl (Nat.le_of_ble_eq_true rfl) ⟨Nat.le_of_ble_eq_true rfl, Nat.le_of_ble_eq_true rfl⟩ ⟨Nat.le_of_ble_eq_true rfl, Nat.le_of_ble_eq_true rfl⟩ rfl rfl d_F_faulty_11 ?_
  exact b_iret X d_F_faulty_14 ⟨rfl, rfl⟩
theorem cz_F_token_t (G : GG) (σ : St) (x1 : Int32)  (c1 : x1 < 0) : CtT y_F_token c_F_token 2 (some .int) rmt_F_token G [.ref (xa σ 0), .int x1] (WC G σ) "java/lang/IllegalArgumentException" (fun w' => w' = (WC G σ)) := by
  refine CtT.of (by decide +kernel) (Nat.le_of_ble_eq_true rfl) (fun K X hex => ?_)
  show Lb K G _ _ 2 0 [(0, .ref (xa σ 0)), (1, .int x1)] [] _ 0 0
  refine b_iload_n X d_F_token_0 1 rfl rfl ?_
  refine b_if_lt X (tgt := 10) d_F_token_1 (by decide) (fun _ => ?_) (fun h => absurd c1 h)
  exact b_throw X hex at_IllegalArgumentException ⟨by decide +kernel, by decide +kernel⟩ (ws_t 498 (by decide +kernel) rfl) (ws_t 499 (by decide +kernel) rfl) (ws_t 15 (by decide +kernel) rfl) (tx := "no such token") (List.mem_of_getElem? (i := 6) rfl) ⟨Nat.le_of_ble_eq_true rfl, Nat.le_of_ble_eq_true rfl, Nat.le_of_ble_eq_true rfl, Nat.le_of_ble_eq_true rfl⟩ d_F_token_10 d_F_token_13 d_F_token_14 d_F_token_16 d_F_token_19 rfl
theorem ct_F_token_ftt (G : GG) (σ : St) (x1 : Int32) (r47 : Int32) (q47 : Sq) (c1 : ¬ x1 < 0) (c7 : x1 < 32) (c29 : ¬ (xi σ 10 0) = 60) (t47 : Ct y_I_add c_I_add 2 (some .int) rm_I_add G [.ref (xa σ 10), .int x1] (WC G σ) (eqp (some (.int r47)) (WC G (xa σ, q47)))) : Ct y_F_token c_F_token 2 (some .int) rm_F_token G [.ref (xa σ 0), .int x1] (WC G σ) (eqp (some (.int r47)) (WC G (xa σ, q47))) := by
  refine Ct.of (by decide +kernel) (Nat.le_of_ble_eq_true rfl) (fun K X => ?_)
  show Lb K G _ _ 2 0 [(0, .ref (xa σ 0)), (1, .int x1)] [] _ 0 0
  refine b_iload_n X d_F_token_0 1 rfl rfl ?_
  refine b_if_lt X (tgt := 10) d_F_token_1 (by decide) (fun h => absurd h c1) (fun _ => ?_)
  refine b_iload_n X d_F_token_4 1 rfl rfl ?_
  refine b_bipush X (v := 32) d_F_token_5 (by decide) ?_
  refine b_icmp_lt X (tgt := 20) d_F_token_7 (by decide) (fun _ => ?_) (fun h => absurd c7 h)
  refine b_aload_n X d_F_token_20 0 rfl rfl ?_
  refine b_get X fl_F_28 0 rfl (v := .ref (xa σ 10)) rfl d_F_token_21 ?_
  refine b_dV X cf_I_size ci_I_size ml_F_135 (ct_I_size_ G σ ) 10 rfl rfl (As := []) (rest := []) rfl (Nat.le_of_ble_eq_true rfl) ⟨Nat.le_of_ble_eq_true rfl, Nat.le_of_ble_eq_true rfl⟩ ⟨Nat.le_of_ble_eq_true rfl, Nat.le_of_ble_eq_true rfl⟩ rfl rfl d_F_token_24 ?_
  refine b_bipush X (v := 60) d_F_token_27 (by decide) ?_
  refine b_icmp_ne X (tgt := 42) d_F_token_29 (by decide) (fun _ => ?_) (fun h => absurd h c29)
  refine b_aload_n X d_F_token_42 0 rfl rfl ?_
  refine b_get X fl_F_28 0 rfl (v := .ref (xa σ 10)) rfl d_F_token_43 ?_
  refine b_iload_n X d_F_token_46 1 rfl rfl ?_
  refine b_dV X cf_I_add ci_I_add ml_F_140 t47 10 rfl rfl (As := [.int x1]) (rest := []) rfl (Nat.le_of_ble_eq_true rfl) ⟨Nat.le_of_ble_eq_true rfl, Nat.le_of_ble_eq_true rfl⟩ ⟨Nat.le_of_ble_eq_true rfl, Nat.le_of_ble_eq_true rfl⟩ rfl rfl d_F_token_47 ?_
  exact b_iret X d_F_token_50 ⟨rfl, rfl⟩
theorem cz_F_token_ftf (G : GG) (σ : St) (x1 : Int32)  (c1 : ¬ x1 < 0) (c7 : x1 < 32) (c29 : (xi σ 10 0) = 60) : CtT y_F_token c_F_token 2 (some .int) rmt_F_token G [.ref (xa σ 0), .int x1] (WC G σ) "java/lang/UnsupportedOperationException" (fun w' => w' = (WC G σ)) := by
  refine CtT.of (by decide +kernel) (Nat.le_of_ble_eq_true rfl) (fun K X hex => ?_)
  show Lb K G _ _ 2 0 [(0, .ref (xa σ 0)), (1, .int x1)] [] _ 0 0
  refine b_iload_n X d_F_token_0 1 rfl rfl ?_
  refine b_if_lt X (tgt := 10) d_F_token_1 (by decide) (fun h => absurd h c1) (fun _ => ?_)
  refine b_iload_n X d_F_token_4 1 rfl rfl ?_
  refine b_bipush X (v := 32) d_F_token_5 (by decide) ?_
  refine b_icmp_lt X (tgt := 20) d_F_token_7 (by decide) (fun _ => ?_) (fun h => absurd c7 h)
  refine b_aload_n X d_F_token_20 0 rfl rfl ?_
  refine b_get X fl_F_28 0 rfl (v := .ref (xa σ 10)) rfl d_F_token_21 ?_
  refine b_dV X cf_I_size ci_I_size ml_F_135 (ct_I_size_ G σ ) 10 rfl rfl (As := []) (rest := []) rfl (Nat.le_of_ble_eq_true rfl) ⟨Nat.le_of_ble_eq_true rfl, Nat.le_of_ble_eq_true rfl⟩ ⟨Nat.le_of_ble_eq_true rfl, Nat.le_of_ble_eq_true rfl⟩ rfl rfl d_F_token_24 ?_
  refine b_bipush X (v := 60) d_F_token_27 (by decide) ?_
  refine b_icmp_ne X (tgt := 42) d_F_token_29 (by decide) (fun h => absurd c29 h) (fun _ => ?_)
  exact b_throw X hex at_UnsupportedOperationException ⟨by decide +kernel, by decide +kernel⟩ (ws_t 377 (by decide +kernel) rfl) (ws_t 378 (by decide +kernel) rfl) (ws_t 13 (by decide +kernel) rfl) (tx := "there are 60 tokens") (List.mem_of_getElem? (i := 7) rfl) ⟨Nat.le_of_ble_eq_true rfl, Nat.le_of_ble_eq_true rfl, Nat.le_of_ble_eq_true rfl, Nat.le_of_ble_eq_true rfl⟩ d_F_token_32 d_F_token_35 d_F_token_36 d_F_token_38 d_F_token_41 rfl
theorem cz_F_token_ff (G : GG) (σ : St) (x1 : Int32)  (c1 : ¬ x1 < 0) (c7 : ¬ x1 < 32) : CtT y_F_token c_F_token 2 (some .int) rmt_F_token G [.ref (xa σ 0), .int x1] (WC G σ) "java/lang/IllegalArgumentException" (fun w' => w' = (WC G σ)) := by
  refine CtT.of (by decide +kernel) (Nat.le_of_ble_eq_true rfl) (fun K X hex => ?_)
  show Lb K G _ _ 2 0 [(0, .ref (xa σ 0)), (1, .int x1)] [] _ 0 0
  refine b_iload_n X d_F_token_0 1 rfl rfl ?_
  refine b_if_lt X (tgt := 10) d_F_token_1 (by decide) (fun h => absurd h c1) (fun _ => ?_)
  refine b_iload_n X d_F_token_4 1 rfl rfl ?_
  refine b_bipush X (v := 32) d_F_token_5 (by decide) ?_
  refine b_icmp_lt X (tgt := 20) d_F_token_7 (by decide) (fun h => absurd h c7) (fun _ => ?_)
  exact b_throw X hex at_IllegalArgumentException ⟨by decide +kernel, by decide +kernel⟩ (ws_t 498 (by decide +kernel) rfl) (ws_t 499 (by decide +kernel) rfl) (ws_t 15 (by decide +kernel) rfl) (tx := "no such token") (List.mem_of_getElem? (i := 6) rfl) ⟨Nat.le_of_ble_eq_true rfl, Nat.le_of_ble_eq_true rfl, Nat.le_of_ble_eq_true rfl, Nat.le_of_ble_eq_true rfl⟩ d_F_token_10 d_F_token_13 d_F_token_14 d_F_token_16 d_F_token_19 rfl
theorem cz_F_keep_t (G : GG) (σ : St) (x1 : Int32)  (c1 : x1 < 0) : CtT y_F_keep c_F_keep 2 none rmt_F_keep G [.ref (xa σ 0), .int x1] (WC G σ) "java/lang/IllegalArgumentException" (fun w' => w' = (WC G σ)) := by
  refine CtT.of (by decide +kernel) (Nat.le_of_ble_eq_true rfl) (fun K X hex => ?_)
  show Lb K G _ _ 2 0 [(0, .ref (xa σ 0)), (1, .int x1)] [] _ 0 0
  refine b_iload_n X d_F_keep_0 1 rfl rfl ?_
  refine b_if_lt X (tgt := 15) d_F_keep_1 (by decide) (fun _ => ?_) (fun h => absurd c1 h)
  exact b_throw X hex at_IllegalArgumentException ⟨by decide +kernel, by decide +kernel⟩ (ws_t 498 (by decide +kernel) rfl) (ws_t 499 (by decide +kernel) rfl) (ws_t 15 (by decide +kernel) rfl) (tx := "the input has not so many tokens") (List.mem_of_getElem? (i := 8) rfl) ⟨Nat.le_of_ble_eq_true rfl, Nat.le_of_ble_eq_true rfl, Nat.le_of_ble_eq_true rfl, Nat.le_of_ble_eq_true rfl⟩ d_F_keep_15 d_F_keep_18 d_F_keep_19 d_F_keep_21 d_F_keep_24 rfl
theorem ct_F_keep_ft (G : GG) (σ : St) (x1 : Int32) (q30 : Sq) (c1 : ¬ x1 < 0) (c12 : x1 ≤ (xi σ 10 0)) (t30 : Ct y_I_cut c_I_cut 2 none rm_I_cut G [.ref (xa σ 10), .int x1] (WC G σ) (eqp (none) (WC G (xa σ, q30)))) : Ct y_F_keep c_F_keep 2 none rm_F_keep G [.ref (xa σ 0), .int x1] (WC G σ) (eqp none (WC G (xa σ, q30))) := by
  refine Ct.of (by decide +kernel) (Nat.le_of_ble_eq_true rfl) (fun K X => ?_)
  show Lb K G _ _ 2 0 [(0, .ref (xa σ 0)), (1, .int x1)] [] _ 0 0
  refine b_iload_n X d_F_keep_0 1 rfl rfl ?_
  refine b_if_lt X (tgt := 15) d_F_keep_1 (by decide) (fun h => absurd h c1) (fun _ => ?_)
  refine b_iload_n X d_F_keep_4 1 rfl rfl ?_
  refine b_aload_n X d_F_keep_5 0 rfl rfl ?_
  refine b_get X fl_F_28 0 rfl (v := .ref (xa σ 10)) rfl d_F_keep_6 ?_
  refine b_dV X cf_I_size ci_I_size ml_F_135 (ct_I_size_ G σ ) 10 rfl rfl (As := []) (rest := [.int x1]) rfl (Nat.le_of_ble_eq_true rfl) ⟨Nat.le_of_ble_eq_true rfl, Nat.le_of_ble_eq_true rfl⟩ ⟨Nat.le_of_ble_eq_true rfl, Nat.le_of_ble_eq_true rfl⟩ rfl rfl d_F_keep_9 ?_
  refine b_icmp_le X (tgt := 25) d_F_keep_12 (by decide) (fun _ => ?_) (fun h => absurd c12 h)
  refine b_aload_n X d_F_keep_25 0 rfl rfl ?_
  refine b_get X fl_F_28 0 rfl (v := .ref (xa σ 10)) rfl d_F_keep_26 ?_
  refine b_iload_n X d_F_keep_29 1 rfl rfl ?_
  refine b_dV X cf_I_cut ci_I_cut ml_F_145 t30 10 rfl rfl (As := [.int x1]) (rest := []) rfl (Nat.le_of_ble_eq_true rfl) ⟨Nat.le_of_ble_eq_true rfl, Nat.le_of_ble_eq_true rfl⟩ ⟨Nat.le_of_ble_eq_true rfl, Nat.le_of_ble_eq_true rfl⟩ rfl rfl d_F_keep_30 ?_
  exact b_vret X d_F_keep_33 ⟨rfl, rfl⟩
theorem cz_F_keep_ff (G : GG) (σ : St) (x1 : Int32)  (c1 : ¬ x1 < 0) (c12 : ¬ x1 ≤ (xi σ 10 0)) : CtT y_F_keep c_F_keep 2 none rmt_F_keep G [.ref (xa σ 0), .int x1] (WC G σ) "java/lang/IllegalArgumentException" (fun w' => w' = (WC G σ)) := by
  refine CtT.of (by decide +kernel) (Nat.le_of_ble_eq_true rfl) (fun K X hex => ?_)
  show Lb K G _ _ 2 0 [(0, .ref (xa σ 0)), (1, .int x1)] [] _ 0 0
  refine b_iload_n X d_F_keep_0 1 rfl rfl ?_
  refine b_if_lt X (tgt := 15) d_F_keep_1 (by decide) (fun h => absurd h c1) (fun _ => ?_)
  refine b_iload_n X d_F_keep_4 1 rfl rfl ?_
  refine b_aload_n X d_F_keep_5 0 rfl rfl ?_
  refine b_get X fl_F_28 0 rfl (v := .ref (xa σ 10)) rfl d_F_keep_6 ?_
  refine b_dV X cf_I_size ci_I_size ml_F_135 (ct_I_size_ G σ ) 10 rfl rfl (As := []) (rest := [.int x1]) rfl (Nat.le_of_ble_eq_true rfl) ⟨Nat.le_of_ble_eq_true rfl, Nat.le_of_ble_eq_true rfl⟩ ⟨Nat.le_of_ble_eq_true rfl, Nat.le_of_ble_eq_true rfl⟩ rfl rfl d_F_keep_9 ?_
  refine b_icmp_le X (tgt := 25) d_F_keep_12 (by decide) (fun h => absurd h c12) (fun _ => ?_)
  exact b_throw X hex at_IllegalArgumentException ⟨by decide +kernel, by decide +kernel⟩ (ws_t 498 (by decide +kernel) rfl) (ws_t 499 (by decide +kernel) rfl) (ws_t 15 (by decide +kernel) rfl) (tx := "the input has not so many tokens") (List.mem_of_getElem? (i := 8) rfl) ⟨Nat.le_of_ble_eq_true rfl, Nat.le_of_ble_eq_true rfl, Nat.le_of_ble_eq_true rfl, Nat.le_of_ble_eq_true rfl⟩ d_F_keep_15 d_F_keep_18 d_F_keep_19 d_F_keep_21 d_F_keep_24 rfl
theorem ct_F_nodes_ (G : GG) (σ : St)    : Ct y_F_nodes c_F_nodes 1 (some .int) rm_F_nodes G [.ref (xa σ 0)] (WC G σ) (eqp (some (.int (xi σ 24 0))) (WC G σ)) := by
  refine Ct.of (by decide +kernel) (Nat.le_of_ble_eq_true rfl) (fun K X => ?_)
  show Lb K G _ _ 1 0 [(0, .ref (xa σ 0))] [] _ 0 0
  refine b_aload_n X d_F_nodes_0 0 rfl rfl ?_
  refine b_get X fl_F_62 0 rfl (v := .ref (xa σ 24)) rfl d_F_nodes_1 ?_
  refine b_dV X cf_T_size ci_T_size ml_F_170 (ct24_T_size_ G σ ) 24 rfl rfl (As := []) (rest := []) rfl (Nat.le_of_ble_eq_true rfl) ⟨Nat.le_of_ble_eq_true rfl, Nat.le_of_ble_eq_true rfl⟩ ⟨Nat.le_of_ble_eq_true rfl, Nat.le_of_ble_eq_true rfl⟩ rfl rfl d_F_nodes_4 ?_
  exact b_iret X d_F_nodes_7 ⟨rfl, rfl⟩
theorem cz_F_parse_tf (G : GG) (σ : St)  (q1 : Sq) (q15 : Sq) (r45 : Int32) (q45 : Sq) (t1 : Ct y_F_mustBeRight c_F_mustBeRight 1 none rm_F_mustBeRight G [.ref (xa σ 0)] (WC G σ) (eqp (none) (WC G (xa σ, q1)))) (t15 : Ct y_C_fill c_C_fill 4 none rm_C_fill G [.ref (xa σ 12), .int (xi (xa σ, q1) 10 0)] (WC G (xa σ, q1)) (eqp (none) (WC G (xa σ, q15)))) (c25 : ¬ (hasB (xl (xa σ, q15) 16 0) (xi (xa σ, q15) 12 0)) = 0) (t45 : Ct y_K_derive c_K_derive 4 (some .boolean) rm_K_derive G [.ref (xa σ 22), .ref (xa σ 26)] (WC G (xa σ, q15)) (eqp (some (.int r45)) (WC G (xa σ, q45)))) (c48 : r45 = 0) : CtT y_F_parse c_F_parse 2 (some .int) rmt_F_parse G [.ref (xa σ 0)] (WC G σ) "java/lang/UnsupportedOperationException" (fun w' => w' = (WC G (xa σ, q45))) := by
  refine CtT.of (by decide +kernel) (Nat.le_of_ble_eq_true rfl) (fun K X hex => ?_)
  show Lb K G _ _ 2 0 [(0, .ref (xa σ 0))] [] _ 0 0
  refine b_aload_n X d_F_parse_0 0 rfl rfl ?_
  refine b_dV X cf_F_mustBeRight ci_F_mustBeRight ml_F_148 t1 0 rfl rfl (As := []) (rest := []) rfl (Nat.le_of_ble_eq_true rfl) ⟨Nat.le_of_ble_eq_true rfl, Nat.le_of_ble_eq_true rfl⟩ ⟨Nat.le_of_ble_eq_true rfl, Nat.le_of_ble_eq_true rfl⟩ rfl rfl d_F_parse_1 ?_
  refine b_aload_n X d_F_parse_4 0 rfl rfl ?_
  refine b_get X fl_F_37 0 rfl (v := .ref (xa σ 12)) rfl d_F_parse_5 ?_
  refine b_aload_n X d_F_parse_8 0 rfl rfl ?_
  refine b_get X fl_F_28 0 rfl (v := .ref (xa σ 10)) rfl d_F_parse_9 ?_
  refine b_dV X cf_I_size ci_I_size ml_F_135 (ct_I_size_ G (xa σ, q1) ) 10 rfl rfl (As := []) (rest := [.ref (xa σ 12)]) rfl (Nat.le_of_ble_eq_true rfl) ⟨Nat.le_of_ble_eq_true rfl, Nat.le_of_ble_eq_true rfl⟩ ⟨Nat.le_of_ble_eq_true rfl, Nat.le_of_ble_eq_true rfl⟩ rfl rfl d_F_parse_12 ?_
  refine b_dV X cf_C_fill ci_C_fill ml_F_151 t15 12 rfl rfl (As := [.int (xi (xa σ, q1) 10 0)]) (rest := []) rfl (Nat.le_of_ble_eq_true rfl) ⟨Nat.le_of_ble_eq_true rfl, Nat.le_of_ble_eq_true rfl⟩ ⟨Nat.le_of_ble_eq_true rfl, Nat.le_of_ble_eq_true rfl⟩ rfl rfl d_F_parse_15 ?_
  refine b_aload_n X d_F_parse_18 0 rfl rfl ?_
  refine b_get X fl_F_37 0 rfl (v := .ref (xa σ 12)) rfl d_F_parse_19 ?_
  refine b_dV X cf_C_hasTree ci_C_hasTree ml_F_154 (ct_C_hasTree0 G (xa σ, q15) ) 12 rfl rfl (As := []) (rest := []) rfl (Nat.le_of_ble_eq_true rfl) ⟨Nat.le_of_ble_eq_true rfl, Nat.le_of_ble_eq_true rfl⟩ ⟨Nat.le_of_ble_eq_true rfl, Nat.le_of_ble_eq_true rfl⟩ rfl rfl d_F_parse_22 ?_
  refine b_if_ne X (tgt := 37) d_F_parse_25 (by decide) (fun _ => ?_) (fun h => absurd h c25)
  refine b_aload_n X d_F_parse_37 0 rfl rfl ?_
  refine b_get X fl_F_55 0 rfl (v := .ref (xa σ 22)) rfl d_F_parse_38 ?_
  refine b_aload_n X d_F_parse_41 0 rfl rfl ?_
  refine b_get X fl_F_66 0 rfl (v := .ref (xa σ 26)) rfl d_F_parse_42 ?_
  refine b_dV X cf_K_derive ci_K_derive ml_F_161 t45 22 rfl rfl (As := [.ref (xa σ 26)]) (rest := []) rfl (Nat.le_of_ble_eq_true rfl) ⟨Nat.le_of_ble_eq_true rfl, Nat.le_of_ble_eq_true rfl⟩ ⟨Nat.le_of_ble_eq_true rfl, Nat.le_of_ble_eq_true rfl⟩ rfl rfl d_F_parse_45 ?_
  refine b_if_ne X (tgt := 61) d_F_parse_48 (by decide) (fun h => absurd c48 h) (fun _ => ?_)
  exact b_throw X hex at_UnsupportedOperationException ⟨by decide +kernel, by decide +kernel⟩ (ws_t 377 (by decide +kernel) rfl) (ws_t 378 (by decide +kernel) rfl) (ws_t 13 (by decide +kernel) rfl) (tx := "the first tree has more than 2000 nodes") (List.mem_of_getElem? (i := 10) rfl) ⟨Nat.le_of_ble_eq_true rfl, Nat.le_of_ble_eq_true rfl, Nat.le_of_ble_eq_true rfl, Nat.le_of_ble_eq_true rfl⟩ d_F_parse_51 d_F_parse_54 d_F_parse_55 d_F_parse_57 d_F_parse_60 rfl
theorem ct_F_parse_f (G : GG) (σ : St)  (q1 : Sq) (q15 : Sq) (q32 : Sq) (t1 : Ct y_F_mustBeRight c_F_mustBeRight 1 none rm_F_mustBeRight G [.ref (xa σ 0)] (WC G σ) (eqp (none) (WC G (xa σ, q1)))) (t15 : Ct y_C_fill c_C_fill 4 none rm_C_fill G [.ref (xa σ 12), .int (xi (xa σ, q1) 10 0)] (WC G (xa σ, q1)) (eqp (none) (WC G (xa σ, q15)))) (c25 : (hasB (xl (xa σ, q15) 16 0) (xi (xa σ, q15) 12 0)) = 0) (t32 : Ct y_T_empty c_T_empty 1 none rm_T_empty G [.ref (xa σ 24)] (WC G (xa σ, q15)) (eqp (none) (WC G (xa σ, q32)))) : Ct y_F_parse c_F_parse 2 (some .int) rm_F_parse G [.ref (xa σ 0)] (WC G σ) (eqp (some (.int 0)) (WC G (xa σ, q32))) := by
  refine Ct.of (by decide +kernel) (Nat.le_of_ble_eq_true rfl) (fun K X => ?_)
  show Lb K G _ _ 2 0 [(0, .ref (xa σ 0))] [] _ 0 0
  refine b_aload_n X d_F_parse_0 0 rfl rfl ?_
  refine b_dV X cf_F_mustBeRight ci_F_mustBeRight ml_F_148 t1 0 rfl rfl (As := []) (rest := []) rfl (Nat.le_of_ble_eq_true rfl) ⟨Nat.le_of_ble_eq_true rfl, Nat.le_of_ble_eq_true rfl⟩ ⟨Nat.le_of_ble_eq_true rfl, Nat.le_of_ble_eq_true rfl⟩ rfl rfl d_F_parse_1 ?_
  refine b_aload_n X d_F_parse_4 0 rfl rfl ?_
  refine b_get X fl_F_37 0 rfl (v := .ref (xa σ 12)) rfl d_F_parse_5 ?_
  refine b_aload_n X d_F_parse_8 0 rfl rfl ?_
  refine b_get X fl_F_28 0 rfl (v := .ref (xa σ 10)) rfl d_F_parse_9 ?_
  refine b_dV X cf_I_size ci_I_size ml_F_135 (ct_I_size_ G (xa σ, q1) ) 10 rfl rfl (As := []) (rest := [.ref (xa σ 12)]) rfl (Nat.le_of_ble_eq_true rfl) ⟨Nat.le_of_ble_eq_true rfl, Nat.le_of_ble_eq_true rfl⟩ ⟨Nat.le_of_ble_eq_true rfl, Nat.le_of_ble_eq_true rfl⟩ rfl rfl d_F_parse_12 ?_
  refine b_dV X cf_C_fill ci_C_fill ml_F_151 t15 12 rfl rfl (As := [.int (xi (xa σ, q1) 10 0)]) (rest := []) rfl (Nat.le_of_ble_eq_true rfl) ⟨Nat.le_of_ble_eq_true rfl, Nat.le_of_ble_eq_true rfl⟩ ⟨Nat.le_of_ble_eq_true rfl, Nat.le_of_ble_eq_true rfl⟩ rfl rfl d_F_parse_15 ?_
  refine b_aload_n X d_F_parse_18 0 rfl rfl ?_
  refine b_get X fl_F_37 0 rfl (v := .ref (xa σ 12)) rfl d_F_parse_19 ?_
  refine b_dV X cf_C_hasTree ci_C_hasTree ml_F_154 (ct_C_hasTree0 G (xa σ, q15) ) 12 rfl rfl (As := []) (rest := []) rfl (Nat.le_of_ble_eq_true rfl) ⟨Nat.le_of_ble_eq_true rfl, Nat.le_of_ble_eq_true rfl⟩ ⟨Nat.le_of_ble_eq_true rfl, Nat.le_of_ble_eq_true rfl⟩ rfl rfl d_F_parse_22 ?_
  refine b_if_ne X (tgt := 37) d_F_parse_25 (by decide) (fun h => absurd c25 h) (fun _ => ?_)
  refine b_aload_n X d_F_parse_28 0 rfl rfl ?_
  refine b_get X fl_F_62 0 rfl (v := .ref (xa σ 24)) rfl d_F_parse_29 ?_
  refine b_dV X cf_T_empty ci_T_empty ml_F_158 t32 24 rfl rfl (As := []) (rest := []) rfl (Nat.le_of_ble_eq_true rfl) ⟨Nat.le_of_ble_eq_true rfl, Nat.le_of_ble_eq_true rfl⟩ ⟨Nat.le_of_ble_eq_true rfl, Nat.le_of_ble_eq_true rfl⟩ rfl rfl d_F_parse_32 ?_
  refine b_iconst X (v := 0) d_F_parse_35 (by decide) ?_
  exact b_iret X d_F_parse_36 ⟨rfl, rfl⟩
theorem cz_F_parse_z1 (G : GG) (σ : St)  (q1 : Sq) (z1 : CtT y_F_mustBeRight c_F_mustBeRight 1 none rmt_F_mustBeRight G [.ref (xa σ 0)] (WC G σ) "java/lang/IllegalStateException" (fun w' => w' = WC G (xa σ, q1))) : CtT y_F_parse c_F_parse 2 (some .int) rmt_F_parse G [.ref (xa σ 0)] (WC G σ) "java/lang/IllegalStateException" (fun w' => w' = (WC G (xa σ, q1))) := by
  refine CtT.of (by decide +kernel) (Nat.le_of_ble_eq_true rfl) (fun K X hex => ?_)
  show Lb K G _ _ 2 0 [(0, .ref (xa σ 0))] [] _ 0 0
  refine b_aload_n X d_F_parse_0 0 rfl rfl ?_
  refine b_callT X cf_F_mustBeRight ci_F_mustBeRight ml_F_148 z1 0 rfl rfl (As := []) (rest := []) rfl (Nat.le_of_ble_eq_true rfl) ⟨Nat.le_of_ble_eq_true rfl, Nat.le_of_ble_eq_true rfl⟩ ⟨Nat.le_of_ble_eq_true rfl, Nat.le_of_ble_eq_true rfl⟩ rfl d_F_parse_1 (fun w' h => ?_)
  subst h
  exact b_out X hex rfl ⟨Nat.le_of_ble_eq_true rfl, Nat.le_of_ble_eq_true rfl⟩
theorem cz_F_node_t (G : GG) (σ : St) (x1 : Int32) (x2 : Int32)  (c1 : x1 < 0) : CtT y_F_node c_F_node 3 (some .int) rmt_F_node G [.ref (xa σ 0), .int x1, .int x2] (WC G σ) "java/lang/IndexOutOfBoundsException" (fun w' => w' = (WC G σ)) := by
  refine CtT.of (by decide +kernel) (Nat.le_of_ble_eq_true rfl) (fun K X hex => ?_)
  show Lb K G _ _ 3 0 [(0, .ref (xa σ 0)), (1, .int x1), (2, .int x2)] [] _ 0 0
  refine b_iload_n X d_F_node_0 1 rfl rfl ?_
  refine b_if_lt X (tgt := 15) d_F_node_1 (by decide) (fun _ => ?_) (fun h => absurd c1 h)
  exact b_throw X hex at_IndexOutOfBoundsException ⟨by decide +kernel, by decide +kernel⟩ (ws_t 462 (by decide +kernel) rfl) (ws_t 463 (by decide +kernel) rfl) (ws_t 14 (by decide +kernel) rfl) (tx := "no such node") (List.mem_of_getElem? (i := 11) rfl) ⟨Nat.le_of_ble_eq_true rfl, Nat.le_of_ble_eq_true rfl, Nat.le_of_ble_eq_true rfl, Nat.le_of_ble_eq_true rfl⟩ d_F_node_15 d_F_node_18 d_F_node_19 d_F_node_21 d_F_node_24 rfl
theorem cz_F_node_ftt (G : GG) (σ : St) (x1 : Int32) (x2 : Int32)  (c1 : ¬ x1 < 0) (c12 : x1 < (xi σ 24 0)) (c26 : x2 < 0) : CtT y_F_node c_F_node 3 (some .int) rmt_F_node G [.ref (xa σ 0), .int x1, .int x2] (WC G σ) "java/lang/IllegalArgumentException" (fun w' => w' = (WC G σ)) := by
  refine CtT.of (by decide +kernel) (Nat.le_of_ble_eq_true rfl) (fun K X hex => ?_)
  show Lb K G _ _ 3 0 [(0, .ref (xa σ 0)), (1, .int x1), (2, .int x2)] [] _ 0 0
  refine b_iload_n X d_F_node_0 1 rfl rfl ?_
  refine b_if_lt X (tgt := 15) d_F_node_1 (by decide) (fun h => absurd h c1) (fun _ => ?_)
  refine b_iload_n X d_F_node_4 1 rfl rfl ?_
  refine b_aload_n X d_F_node_5 0 rfl rfl ?_
  refine b_get X fl_F_62 0 rfl (v := .ref (xa σ 24)) rfl d_F_node_6 ?_
  refine b_dV X cf_T_size ci_T_size ml_F_170 (ct24_T_size_ G σ ) 24 rfl rfl (As := []) (rest := [.int x1]) rfl (Nat.le_of_ble_eq_true rfl) ⟨Nat.le_of_ble_eq_true rfl, Nat.le_of_ble_eq_true rfl⟩ ⟨Nat.le_of_ble_eq_true rfl, Nat.le_of_ble_eq_true rfl⟩ rfl rfl d_F_node_9 ?_
  refine b_icmp_lt X (tgt := 25) d_F_node_12 (by decide) (fun _ => ?_) (fun h => absurd c12 h)
  refine b_iload_n X d_F_node_25 2 rfl rfl ?_
  refine b_if_lt X (tgt := 35) d_F_node_26 (by decide) (fun _ => ?_) (fun h => absurd c26 h)
  exact b_throw X hex at_IllegalArgumentException ⟨by decide +kernel, by decide +kernel⟩ (ws_t 498 (by decide +kernel) rfl) (ws_t 499 (by decide +kernel) rfl) (ws_t 15 (by decide +kernel) rfl) (tx := "nothing of a node is told by that number") (List.mem_of_getElem? (i := 12) rfl) ⟨Nat.le_of_ble_eq_true rfl, Nat.le_of_ble_eq_true rfl, Nat.le_of_ble_eq_true rfl, Nat.le_of_ble_eq_true rfl⟩ d_F_node_35 d_F_node_38 d_F_node_39 d_F_node_41 d_F_node_44 rfl
theorem ct_F_node_ftft (G : GG) (σ : St) (x1 : Int32) (x2 : Int32) (n51 : Nat) (c1 : ¬ x1 < 0) (c12 : x1 < (xi σ 24 0)) (c26 : ¬ x2 < 0) (c32 : x2 < 7) (e51 : ((x1 * 7) + x2) = nI n51) (h51 : n51 < 14000) : Ct y_F_node c_F_node 3 (some .int) rm_F_node G [.ref (xa σ 0), .int x1, .int x2] (WC G σ) (eqp (some (.int (xi σ 25 n51))) (WC G σ)) := by
  refine Ct.of (by decide +kernel) (Nat.le_of_ble_eq_true rfl) (fun K X => ?_)
  show Lb K G _ _ 3 0 [(0, .ref (xa σ 0)), (1, .int x1), (2, .int x2)] [] _ 0 0
  refine b_iload_n X d_F_node_0 1 rfl rfl ?_
  refine b_if_lt X (tgt := 15) d_F_node_1 (by decide) (fun h => absurd h c1) (fun _ => ?_)
  refine b_iload_n X d_F_node_4 1 rfl rfl ?_
  refine b_aload_n X d_F_node_5 0 rfl rfl ?_
  refine b_get X fl_F_62 0 rfl (v := .ref (xa σ 24)) rfl d_F_node_6 ?_
  refine b_dV X cf_T_size ci_T_size ml_F_170 (ct24_T_size_ G σ ) 24 rfl rfl (As := []) (rest := [.int x1]) rfl (Nat.le_of_ble_eq_true rfl) ⟨Nat.le_of_ble_eq_true rfl, Nat.le_of_ble_eq_true rfl⟩ ⟨Nat.le_of_ble_eq_true rfl, Nat.le_of_ble_eq_true rfl⟩ rfl rfl d_F_node_9 ?_
  refine b_icmp_lt X (tgt := 25) d_F_node_12 (by decide) (fun _ => ?_) (fun h => absurd c12 h)
  refine b_iload_n X d_F_node_25 2 rfl rfl ?_
  refine b_if_lt X (tgt := 35) d_F_node_26 (by decide) (fun h => absurd h c26) (fun _ => ?_)
  refine b_iload_n X d_F_node_29 2 rfl rfl ?_
  refine b_bipush X (v := 7) d_F_node_30 (by decide) ?_
  refine b_icmp_lt X (tgt := 45) d_F_node_32 (by decide) (fun _ => ?_) (fun h => absurd c32 h)
  refine b_aload_n X d_F_node_45 0 rfl rfl ?_
  refine b_get X fl_F_62 0 rfl (v := .ref (xa σ 24)) rfl d_F_node_46 ?_
  refine b_iload_n X d_F_node_49 1 rfl rfl ?_
  refine b_iload_n X d_F_node_50 2 rfl rfl ?_
  refine b_dV X cf_T_fact ci_T_fact ml_F_178 (ct24_T_fact_ G σ x1 x2 n51 e51 h51) 24 rfl rfl (As := [.int x1, .int x2]) (rest := []) rfl (Nat.le_of_ble_eq_true rfl) ⟨Nat.le_of_ble_eq_true rfl, Nat.le_of_ble_eq_true rfl⟩ ⟨Nat.le_of_ble_eq_true rfl, Nat.le_of_ble_eq_true rfl⟩ rfl rfl d_F_node_51 ?_
  exact b_iret X d_F_node_54 ⟨rfl, rfl⟩
theorem cz_F_node_ftff (G : GG) (σ : St) (x1 : Int32) (x2 : Int32)  (c1 : ¬ x1 < 0) (c12 : x1 < (xi σ 24 0)) (c26 : ¬ x2 < 0) (c32 : ¬ x2 < 7) : CtT y_F_node c_F_node 3 (some .int) rmt_F_node G [.ref (xa σ 0), .int x1, .int x2] (WC G σ) "java/lang/IllegalArgumentException" (fun w' => w' = (WC G σ)) := by
  refine CtT.of (by decide +kernel) (Nat.le_of_ble_eq_true rfl) (fun K X hex => ?_)
  show Lb K G _ _ 3 0 [(0, .ref (xa σ 0)), (1, .int x1), (2, .int x2)] [] _ 0 0
  refine b_iload_n X d_F_node_0 1 rfl rfl ?_
  refine b_if_lt X (tgt := 15) d_F_node_1 (by decide) (fun h => absurd h c1) (fun _ => ?_)
  refine b_iload_n X d_F_node_4 1 rfl rfl ?_
  refine b_aload_n X d_F_node_5 0 rfl rfl ?_
  refine b_get X fl_F_62 0 rfl (v := .ref (xa σ 24)) rfl d_F_node_6 ?_
  refine b_dV X cf_T_size ci_T_size ml_F_170 (ct24_T_size_ G σ ) 24 rfl rfl (As := []) (rest := [.int x1]) rfl (Nat.le_of_ble_eq_true rfl) ⟨Nat.le_of_ble_eq_true rfl, Nat.le_of_ble_eq_true rfl⟩ ⟨Nat.le_of_ble_eq_true rfl, Nat.le_of_ble_eq_true rfl⟩ rfl rfl d_F_node_9 ?_
  refine b_icmp_lt X (tgt := 25) d_F_node_12 (by decide) (fun _ => ?_) (fun h => absurd c12 h)
  refine b_iload_n X d_F_node_25 2 rfl rfl ?_
  refine b_if_lt X (tgt := 35) d_F_node_26 (by decide) (fun h => absurd h c26) (fun _ => ?_)
  refine b_iload_n X d_F_node_29 2 rfl rfl ?_
  refine b_bipush X (v := 7) d_F_node_30 (by decide) ?_
  refine b_icmp_lt X (tgt := 45) d_F_node_32 (by decide) (fun h => absurd h c32) (fun _ => ?_)
  exact b_throw X hex at_IllegalArgumentException ⟨by decide +kernel, by decide +kernel⟩ (ws_t 498 (by decide +kernel) rfl) (ws_t 499 (by decide +kernel) rfl) (ws_t 15 (by decide +kernel) rfl) (tx := "nothing of a node is told by that number") (List.mem_of_getElem? (i := 12) rfl) ⟨Nat.le_of_ble_eq_true rfl, Nat.le_of_ble_eq_true rfl, Nat.le_of_ble_eq_true rfl, Nat.le_of_ble_eq_true rfl⟩ d_F_node_35 d_F_node_38 d_F_node_39 d_F_node_41 d_F_node_44 rfl
theorem cz_F_node_ff (G : GG) (σ : St) (x1 : Int32) (x2 : Int32)  (c1 : ¬ x1 < 0) (c12 : ¬ x1 < (xi σ 24 0)) : CtT y_F_node c_F_node 3 (some .int) rmt_F_node G [.ref (xa σ 0), .int x1, .int x2] (WC G σ) "java/lang/IndexOutOfBoundsException" (fun w' => w' = (WC G σ)) := by
  refine CtT.of (by decide +kernel) (Nat.le_of_ble_eq_true rfl) (fun K X hex => ?_)
  show Lb K G _ _ 3 0 [(0, .ref (xa σ 0)), (1, .int x1), (2, .int x2)] [] _ 0 0
  refine b_iload_n X d_F_node_0 1 rfl rfl ?_
  refine b_if_lt X (tgt := 15) d_F_node_1 (by decide) (fun h => absurd h c1) (fun _ => ?_)
  refine b_iload_n X d_F_node_4 1 rfl rfl ?_
  refine b_aload_n X d_F_node_5 0 rfl rfl ?_
  refine b_get X fl_F_62 0 rfl (v := .ref (xa σ 24)) rfl d_F_node_6 ?_
  refine b_dV X cf_T_size ci_T_size ml_F_170 (ct24_T_size_ G σ ) 24 rfl rfl (As := []) (rest := [.int x1]) rfl (Nat.le_of_ble_eq_true rfl) ⟨Nat.le_of_ble_eq_true rfl, Nat.le_of_ble_eq_true rfl⟩ ⟨Nat.le_of_ble_eq_true rfl, Nat.le_of_ble_eq_true rfl⟩ rfl rfl d_F_node_9 ?_
  refine b_icmp_lt X (tgt := 25) d_F_node_12 (by decide) (fun h => absurd h c12) (fun _ => ?_)
  exact b_throw X hex at_IndexOutOfBoundsException ⟨by decide +kernel, by decide +kernel⟩ (ws_t 462 (by decide +kernel) rfl) (ws_t 463 (by decide +kernel) rfl) (ws_t 14 (by decide +kernel) rfl) (tx := "no such node") (List.mem_of_getElem? (i := 11) rfl) ⟨Nat.le_of_ble_eq_true rfl, Nat.le_of_ble_eq_true rfl, Nat.le_of_ble_eq_true rfl, Nat.le_of_ble_eq_true rfl⟩ d_F_node_15 d_F_node_18 d_F_node_19 d_F_node_21 d_F_node_24 rfl
theorem ct_F_reach_t (G : GG) (σ : St)  (q1 : Sq) (q15 : Sq) (t1 : Ct y_F_mustBeRight c_F_mustBeRight 1 none rm_F_mustBeRight G [.ref (xa σ 0)] (WC G σ) (eqp (none) (WC G (xa σ, q1)))) (t15 : Ct y_C_fill c_C_fill 4 none rm_C_fill G [.ref (xa σ 12), .int (xi (xa σ, q1) 10 0)] (WC G (xa σ, q1)) (eqp (none) (WC G (xa σ, q15)))) (c25 : (hasB (xl (xa σ, q15) 16 0) (xi (xa σ, q15) 12 0)) = 0) : Ct y_F_reach c_F_reach 1 (some .int) rm_F_reach G [.ref (xa σ 0)] (WC G σ) (eqp (some (.int (xi (xa σ, q15) 17 0))) (WC G (xa σ, q15))) := by
  refine Ct.of (by decide +kernel) (Nat.le_of_ble_eq_true rfl) (fun K X => ?_)
  show Lb K G _ _ 1 0 [(0, .ref (xa σ 0))] [] _ 0 0
  refine b_aload_n X d_F_reach_0 0 rfl rfl ?_
  refine b_dV X cf_F_mustBeRight ci_F_mustBeRight ml_F_148 t1 0 rfl rfl (As := []) (rest := []) rfl (Nat.le_of_ble_eq_true rfl) ⟨Nat.le_of_ble_eq_true rfl, Nat.le_of_ble_eq_true rfl⟩ ⟨Nat.le_of_ble_eq_true rfl, Nat.le_of_ble_eq_true rfl⟩ rfl rfl d_F_reach_1 ?_
  refine b_aload_n X d_F_reach_4 0 rfl rfl ?_
  refine b_get X fl_F_37 0 rfl (v := .ref (xa σ 12)) rfl d_F_reach_5 ?_
  refine b_aload_n X d_F_reach_8 0 rfl rfl ?_
  refine b_get X fl_F_28 0 rfl (v := .ref (xa σ 10)) rfl d_F_reach_9 ?_
  refine b_dV X cf_I_size ci_I_size ml_F_135 (ct_I_size_ G (xa σ, q1) ) 10 rfl rfl (As := []) (rest := [.ref (xa σ 12)]) rfl (Nat.le_of_ble_eq_true rfl) ⟨Nat.le_of_ble_eq_true rfl, Nat.le_of_ble_eq_true rfl⟩ ⟨Nat.le_of_ble_eq_true rfl, Nat.le_of_ble_eq_true rfl⟩ rfl rfl d_F_reach_12 ?_
  refine b_dV X cf_C_fill ci_C_fill ml_F_151 t15 12 rfl rfl (As := [.int (xi (xa σ, q1) 10 0)]) (rest := []) rfl (Nat.le_of_ble_eq_true rfl) ⟨Nat.le_of_ble_eq_true rfl, Nat.le_of_ble_eq_true rfl⟩ ⟨Nat.le_of_ble_eq_true rfl, Nat.le_of_ble_eq_true rfl⟩ rfl rfl d_F_reach_15 ?_
  refine b_aload_n X d_F_reach_18 0 rfl rfl ?_
  refine b_get X fl_F_37 0 rfl (v := .ref (xa σ 12)) rfl d_F_reach_19 ?_
  refine b_dV X cf_C_hasTree ci_C_hasTree ml_F_154 (ct_C_hasTree0 G (xa σ, q15) ) 12 rfl rfl (As := []) (rest := []) rfl (Nat.le_of_ble_eq_true rfl) ⟨Nat.le_of_ble_eq_true rfl, Nat.le_of_ble_eq_true rfl⟩ ⟨Nat.le_of_ble_eq_true rfl, Nat.le_of_ble_eq_true rfl⟩ rfl rfl d_F_reach_22 ?_
  refine b_if_eq X (tgt := 40) d_F_reach_25 (by decide) (fun _ => ?_) (fun h => absurd c25 h)
  refine b_aload_n X d_F_reach_40 0 rfl rfl ?_
  refine b_get X fl_F_37 0 rfl (v := .ref (xa σ 12)) rfl d_F_reach_41 ?_
  refine b_dV X cf_C_farOfAll ci_C_farOfAll ml_F_181 (ct_C_farOfAll0 G (xa σ, q15) ) 12 rfl rfl (As := []) (rest := []) rfl (Nat.le_of_ble_eq_true rfl) ⟨Nat.le_of_ble_eq_true rfl, Nat.le_of_ble_eq_true rfl⟩ ⟨Nat.le_of_ble_eq_true rfl, Nat.le_of_ble_eq_true rfl⟩ rfl rfl d_F_reach_44 ?_
  exact b_iret X d_F_reach_47 ⟨rfl, rfl⟩
theorem ct_F_reach_f (G : GG) (σ : St)  (q1 : Sq) (q15 : Sq) (t1 : Ct y_F_mustBeRight c_F_mustBeRight 1 none rm_F_mustBeRight G [.ref (xa σ 0)] (WC G σ) (eqp (none) (WC G (xa σ, q1)))) (t15 : Ct y_C_fill c_C_fill 4 none rm_C_fill G [.ref (xa σ 12), .int (xi (xa σ, q1) 10 0)] (WC G (xa σ, q1)) (eqp (none) (WC G (xa σ, q15)))) (c25 : ¬ (hasB (xl (xa σ, q15) 16 0) (xi (xa σ, q15) 12 0)) = 0) : Ct y_F_reach c_F_reach 1 (some .int) rm_F_reach G [.ref (xa σ 0)] (WC G σ) (eqp (some (.int ((xi (xa σ, q15) 10 0) + 1))) (WC G (xa σ, q15))) := by
  refine Ct.of (by decide +kernel) (Nat.le_of_ble_eq_true rfl) (fun K X => ?_)
  show Lb K G _ _ 1 0 [(0, .ref (xa σ 0))] [] _ 0 0
  refine b_aload_n X d_F_reach_0 0 rfl rfl ?_
  refine b_dV X cf_F_mustBeRight ci_F_mustBeRight ml_F_148 t1 0 rfl rfl (As := []) (rest := []) rfl (Nat.le_of_ble_eq_true rfl) ⟨Nat.le_of_ble_eq_true rfl, Nat.le_of_ble_eq_true rfl⟩ ⟨Nat.le_of_ble_eq_true rfl, Nat.le_of_ble_eq_true rfl⟩ rfl rfl d_F_reach_1 ?_
  refine b_aload_n X d_F_reach_4 0 rfl rfl ?_
  refine b_get X fl_F_37 0 rfl (v := .ref (xa σ 12)) rfl d_F_reach_5 ?_
  refine b_aload_n X d_F_reach_8 0 rfl rfl ?_
  refine b_get X fl_F_28 0 rfl (v := .ref (xa σ 10)) rfl d_F_reach_9 ?_
  refine b_dV X cf_I_size ci_I_size ml_F_135 (ct_I_size_ G (xa σ, q1) ) 10 rfl rfl (As := []) (rest := [.ref (xa σ 12)]) rfl (Nat.le_of_ble_eq_true rfl) ⟨Nat.le_of_ble_eq_true rfl, Nat.le_of_ble_eq_true rfl⟩ ⟨Nat.le_of_ble_eq_true rfl, Nat.le_of_ble_eq_true rfl⟩ rfl rfl d_F_reach_12 ?_
  refine b_dV X cf_C_fill ci_C_fill ml_F_151 t15 12 rfl rfl (As := [.int (xi (xa σ, q1) 10 0)]) (rest := []) rfl (Nat.le_of_ble_eq_true rfl) ⟨Nat.le_of_ble_eq_true rfl, Nat.le_of_ble_eq_true rfl⟩ ⟨Nat.le_of_ble_eq_true rfl, Nat.le_of_ble_eq_true rfl⟩ rfl rfl d_F_reach_15 ?_
  refine b_aload_n X d_F_reach_18 0 rfl rfl ?_
  refine b_get X fl_F_37 0 rfl (v := .ref (xa σ 12)) rfl d_F_reach_19 ?_
  refine b_dV X cf_C_hasTree ci_C_hasTree ml_F_154 (ct_C_hasTree0 G (xa σ, q15) ) 12 rfl rfl (As := []) (rest := []) rfl (Nat.le_of_ble_eq_true rfl) ⟨Nat.le_of_ble_eq_true rfl, Nat.le_of_ble_eq_true rfl⟩ ⟨Nat.le_of_ble_eq_true rfl, Nat.le_of_ble_eq_true rfl⟩ rfl rfl d_F_reach_22 ?_
  refine b_if_eq X (tgt := 40) d_F_reach_25 (by decide) (fun h => absurd h c25) (fun _ => ?_)
  refine b_aload_n X d_F_reach_28 0 rfl rfl ?_
  refine b_get X fl_F_28 0 rfl (v := .ref (xa σ 10)) rfl d_F_reach_29 ?_
  refine b_dV X cf_I_size ci_I_size ml_F_135 (ct_I_size_ G (xa σ, q15) ) 10 rfl rfl (As := []) (rest := []) rfl (Nat.le_of_ble_eq_true rfl) ⟨Nat.le_of_ble_eq_true rfl, Nat.le_of_ble_eq_true rfl⟩ ⟨Nat.le_of_ble_eq_true rfl, Nat.le_of_ble_eq_true rfl⟩ rfl rfl d_F_reach_32 ?_
  refine b_iconst X (v := 1) d_F_reach_35 (by decide) ?_
  refine b_iadd X d_F_reach_36 ?_
  refine b_goto X (tgt := 47) d_F_reach_37 (by decide) ?_
  exact b_iret X d_F_reach_47 ⟨rfl, rfl⟩
theorem cz_F_reach_z1 (G : GG) (σ : St)  (q1 : Sq) (z1 : CtT y_F_mustBeRight c_F_mustBeRight 1 none rmt_F_mustBeRight G [.ref (xa σ 0)] (WC G σ) "java/lang/IllegalStateException" (fun w' => w' = WC G (xa σ, q1))) : CtT y_F_reach c_F_reach 1 (some .int) rmt_F_reach G [.ref (xa σ 0)] (WC G σ) "java/lang/IllegalStateException" (fun w' => w' = (WC G (xa σ, q1))) := by
  refine CtT.of (by decide +kernel) (Nat.le_of_ble_eq_true rfl) (fun K X hex => ?_)
  show Lb K G _ _ 1 0 [(0, .ref (xa σ 0))] [] _ 0 0
  refine b_aload_n X d_F_reach_0 0 rfl rfl ?_
  refine b_callT X cf_F_mustBeRight ci_F_mustBeRight ml_F_148 z1 0 rfl rfl (As := []) (rest := []) rfl (Nat.le_of_ble_eq_true rfl) ⟨Nat.le_of_ble_eq_true rfl, Nat.le_of_ble_eq_true rfl⟩ ⟨Nat.le_of_ble_eq_true rfl, Nat.le_of_ble_eq_true rfl⟩ rfl d_F_reach_1 (fun w' h => ?_)
  subst h
  exact b_out X hex rfl ⟨Nat.le_of_ble_eq_true rfl, Nat.le_of_ble_eq_true rfl⟩
theorem cz_F_expected_t (G : GG) (σ : St) (x1 : Int32) (q1 : Sq) (t1 : Ct y_F_mustBeRight c_F_mustBeRight 1 none rm_F_mustBeRight G [.ref (xa σ 0)] (WC G σ) (eqp (none) (WC G (xa σ, q1)))) (c5 : x1 < 0) : CtT y_F_expected c_F_expected 2 (some .long) rmt_F_expected G [.ref (xa σ 0), .int x1] (WC G σ) "java/lang/IllegalArgumentException" (fun w' => w' = (WC G (xa σ, q1))) := by
  refine CtT.of (by decide +kernel) (Nat.le_of_ble_eq_true rfl) (fun K X hex => ?_)
  show Lb K G _ _ 2 0 [(0, .ref (xa σ 0)), (1, .int x1)] [] _ 0 0
  refine b_aload_n X d_F_expected_0 0 rfl rfl ?_
  refine b_dV X cf_F_mustBeRight ci_F_mustBeRight ml_F_148 t1 0 rfl rfl (As := []) (rest := []) rfl (Nat.le_of_ble_eq_true rfl) ⟨Nat.le_of_ble_eq_true rfl, Nat.le_of_ble_eq_true rfl⟩ ⟨Nat.le_of_ble_eq_true rfl, Nat.le_of_ble_eq_true rfl⟩ rfl rfl d_F_expected_1 ?_
  refine b_iload_n X d_F_expected_4 1 rfl rfl ?_
  refine b_if_lt X (tgt := 19) d_F_expected_5 (by decide) (fun _ => ?_) (fun h => absurd c5 h)
  exact b_throw X hex at_IllegalArgumentException ⟨by decide +kernel, by decide +kernel⟩ (ws_t 498 (by decide +kernel) rfl) (ws_t 499 (by decide +kernel) rfl) (ws_t 15 (by decide +kernel) rfl) (tx := "no such place") (List.mem_of_getElem? (i := 13) rfl) ⟨Nat.le_of_ble_eq_true rfl, Nat.le_of_ble_eq_true rfl, Nat.le_of_ble_eq_true rfl, Nat.le_of_ble_eq_true rfl⟩ d_F_expected_19 d_F_expected_22 d_F_expected_23 d_F_expected_25 d_F_expected_28 rfl
theorem ct_F_expected_ftt (G : GG) (σ : St) (x1 : Int32) (q1 : Sq) (q34 : Sq) (t1 : Ct y_F_mustBeRight c_F_mustBeRight 1 none rm_F_mustBeRight G [.ref (xa σ 0)] (WC G σ) (eqp (none) (WC G (xa σ, q1)))) (c5 : ¬ x1 < 0) (c16 : x1 ≤ (xi (xa σ, q1) 10 0)) (t34 : Ct y_C_fill c_C_fill 4 none rm_C_fill G [.ref (xa σ 12), .int x1] (WC G (xa σ, q1)) (eqp (none) (WC G (xa σ, q34)))) (c51 : (hasB (xl (xa σ, q34) 16 0) (xi (xa σ, q34) 12 0)) = 0) : Ct y_F_expected c_F_expected 2 (some .long) rm_F_expected G [.ref (xa σ 0), .int x1] (WC G σ) (eqp (some (.long ((xl (xa σ, q34) 18 0) ||| 0))) (WC G (xa σ, q34))) := by
  refine Ct.of (by decide +kernel) (Nat.le_of_ble_eq_true rfl) (fun K X => ?_)
  show Lb K G _ _ 2 0 [(0, .ref (xa σ 0)), (1, .int x1)] [] _ 0 0
  refine b_aload_n X d_F_expected_0 0 rfl rfl ?_
  refine b_dV X cf_F_mustBeRight ci_F_mustBeRight ml_F_148 t1 0 rfl rfl (As := []) (rest := []) rfl (Nat.le_of_ble_eq_true rfl) ⟨Nat.le_of_ble_eq_true rfl, Nat.le_of_ble_eq_true rfl⟩ ⟨Nat.le_of_ble_eq_true rfl, Nat.le_of_ble_eq_true rfl⟩ rfl rfl d_F_expected_1 ?_
  refine b_iload_n X d_F_expected_4 1 rfl rfl ?_
  refine b_if_lt X (tgt := 19) d_F_expected_5 (by decide) (fun h => absurd h c5) (fun _ => ?_)
  refine b_iload_n X d_F_expected_8 1 rfl rfl ?_
  refine b_aload_n X d_F_expected_9 0 rfl rfl ?_
  refine b_get X fl_F_28 0 rfl (v := .ref (xa σ 10)) rfl d_F_expected_10 ?_
  refine b_dV X cf_I_size ci_I_size ml_F_135 (ct_I_size_ G (xa σ, q1) ) 10 rfl rfl (As := []) (rest := [.int x1]) rfl (Nat.le_of_ble_eq_true rfl) ⟨Nat.le_of_ble_eq_true rfl, Nat.le_of_ble_eq_true rfl⟩ ⟨Nat.le_of_ble_eq_true rfl, Nat.le_of_ble_eq_true rfl⟩ rfl rfl d_F_expected_13 ?_
  refine b_icmp_le X (tgt := 29) d_F_expected_16 (by decide) (fun _ => ?_) (fun h => absurd c16 h)
  refine b_aload_n X d_F_expected_29 0 rfl rfl ?_
  refine b_get X fl_F_37 0 rfl (v := .ref (xa σ 12)) rfl d_F_expected_30 ?_
  refine b_iload_n X d_F_expected_33 1 rfl rfl ?_
  refine b_dV X cf_C_fill ci_C_fill ml_F_151 t34 12 rfl rfl (As := [.int x1]) (rest := []) rfl (Nat.le_of_ble_eq_true rfl) ⟨Nat.le_of_ble_eq_true rfl, Nat.le_of_ble_eq_true rfl⟩ ⟨Nat.le_of_ble_eq_true rfl, Nat.le_of_ble_eq_true rfl⟩ rfl rfl d_F_expected_34 ?_
  refine b_aload_n X d_F_expected_37 0 rfl rfl ?_
  refine b_get X fl_F_37 0 rfl (v := .ref (xa σ 12)) rfl d_F_expected_38 ?_
  refine b_dV X cf_C_soonOfAll ci_C_soonOfAll ml_F_186 (ct_C_soonOfAll0 G (xa σ, q34) ) 12 rfl rfl (As := []) (rest := []) rfl (Nat.le_of_ble_eq_true rfl) ⟨Nat.le_of_ble_eq_true rfl, Nat.le_of_ble_eq_true rfl⟩ ⟨Nat.le_of_ble_eq_true rfl, Nat.le_of_ble_eq_true rfl⟩ rfl rfl d_F_expected_41 ?_
  refine b_aload_n X d_F_expected_44 0 rfl rfl ?_
  refine b_get X fl_F_37 0 rfl (v := .ref (xa σ 12)) rfl d_F_expected_45 ?_
  refine b_dV X cf_C_hasTree ci_C_hasTree ml_F_154 (ct_C_hasTree0 G (xa σ, q34) ) 12 rfl rfl (As := []) (rest := [.long (xl (xa σ, q34) 18 0)]) rfl (Nat.le_of_ble_eq_true rfl) ⟨Nat.le_of_ble_eq_true rfl, Nat.le_of_ble_eq_true rfl⟩ ⟨Nat.le_of_ble_eq_true rfl, Nat.le_of_ble_eq_true rfl⟩ rfl rfl d_F_expected_48 ?_
  refine b_if_eq X (tgt := 60) d_F_expected_51 (by decide) (fun _ => ?_) (fun h => absurd c51 h)
  refine b_lconst X (v := 0) d_F_expected_60 rfl ?_
  refine b_lor X d_F_expected_61 ?_
  exact b_lret X d_F_expected_62 ⟨rfl, rfl⟩
theorem ct_F_expected_ftf (G : GG) (σ : St) (x1 : Int32) (q1 : Sq) (q34 : Sq) (t1 : Ct y_F_mustBeRight c_F_mustBeRight 1 none rm_F_mustBeRight G [.ref (xa σ 0)] (WC G σ) (eqp (none) (WC G (xa σ, q1)))) (c5 : ¬ x1 < 0) (c16 : x1 ≤ (xi (xa σ, q1) 10 0)) (t34 : Ct y_C_fill c_C_fill 4 none rm_C_fill G [.ref (xa σ 12), .int x1] (WC G (xa σ, q1)) (eqp (none) (WC G (xa σ, q34)))) (c51 : ¬ (hasB (xl (xa σ, q34) 16 0) (xi (xa σ, q34) 12 0)) = 0) : Ct y_F_expected c_F_expected 2 (some .long) rm_F_expected G [.ref (xa σ 0), .int x1] (WC G σ) (eqp (some (.long ((xl (xa σ, q34) 18 0) ||| 4294967296))) (WC G (xa σ, q34))) := by
  refine Ct.of (by decide +kernel) (Nat.le_of_ble_eq_true rfl) (fun K X => ?_)
  show Lb K G _ _ 2 0 [(0, .ref (xa σ 0)), (1, .int x1)] [] _ 0 0
  refine b_aload_n X d_F_expected_0 0 rfl rfl ?_
  refine b_dV X cf_F_mustBeRight ci_F_mustBeRight ml_F_148 t1 0 rfl rfl (As := []) (rest := []) rfl (Nat.le_of_ble_eq_true rfl) ⟨Nat.le_of_ble_eq_true rfl, Nat.le_of_ble_eq_true rfl⟩ ⟨Nat.le_of_ble_eq_true rfl, Nat.le_of_ble_eq_true rfl⟩ rfl rfl d_F_expected_1 ?_
  refine b_iload_n X d_F_expected_4 1 rfl rfl ?_
  refine b_if_lt X (tgt := 19) d_F_expected_5 (by decide) (fun h => absurd h c5) (fun _ => ?_)
  refine b_iload_n X d_F_expected_8 1 rfl rfl ?_
  refine b_aload_n X d_F_expected_9 0 rfl rfl ?_
  refine b_get X fl_F_28 0 rfl (v := .ref (xa σ 10)) rfl d_F_expected_10 ?_
  refine b_dV X cf_I_size ci_I_size ml_F_135 (ct_I_size_ G (xa σ, q1) ) 10 rfl rfl (As := []) (rest := [.int x1]) rfl (Nat.le_of_ble_eq_true rfl) ⟨Nat.le_of_ble_eq_true rfl, Nat.le_of_ble_eq_true rfl⟩ ⟨Nat.le_of_ble_eq_true rfl, Nat.le_of_ble_eq_true rfl⟩ rfl rfl d_F_expected_13 ?_
  refine b_icmp_le X (tgt := 29) d_F_expected_16 (by decide) (fun _ => ?_) (fun h => absurd c16 h)
  refine b_aload_n X d_F_expected_29 0 rfl rfl ?_
  refine b_get X fl_F_37 0 rfl (v := .ref (xa σ 12)) rfl d_F_expected_30 ?_
  refine b_iload_n X d_F_expected_33 1 rfl rfl ?_
  refine b_dV X cf_C_fill ci_C_fill ml_F_151 t34 12 rfl rfl (As := [.int x1]) (rest := []) rfl (Nat.le_of_ble_eq_true rfl) ⟨Nat.le_of_ble_eq_true rfl, Nat.le_of_ble_eq_true rfl⟩ ⟨Nat.le_of_ble_eq_true rfl, Nat.le_of_ble_eq_true rfl⟩ rfl rfl d_F_expected_34 ?_
  refine b_aload_n X d_F_expected_37 0 rfl rfl ?_
  refine b_get X fl_F_37 0 rfl (v := .ref (xa σ 12)) rfl d_F_expected_38 ?_
  refine b_dV X cf_C_soonOfAll ci_C_soonOfAll ml_F_186 (ct_C_soonOfAll0 G (xa σ, q34) ) 12 rfl rfl (As := []) (rest := []) rfl (Nat.le_of_ble_eq_true rfl) ⟨Nat.le_of_ble_eq_true rfl, Nat.le_of_ble_eq_true rfl⟩ ⟨Nat.le_of_ble_eq_true rfl, Nat.le_of_ble_eq_true rfl⟩ rfl rfl d_F_expected_41 ?_
  refine b_aload_n X d_F_expected_44 0 rfl rfl ?_
  refine b_get X fl_F_37 0 rfl (v := .ref (xa σ 12)) rfl d_F_expected_45 ?_
  refine b_dV X cf_C_hasTree ci_C_hasTree ml_F_154 (ct_C_hasTree0 G (xa σ, q34) ) 12 rfl rfl (As := []) (rest := [.long (xl (xa σ, q34) 18 0)]) rfl (Nat.le_of_ble_eq_true rfl) ⟨Nat.le_of_ble_eq_true rfl, Nat.le_of_ble_eq_true rfl⟩ ⟨Nat.le_of_ble_eq_true rfl, Nat.le_of_ble_eq_true rfl⟩ rfl rfl d_F_expected_48 ?_
  refine b_if_eq X (tgt := 60) d_F_expected_51 (by decide) (fun h => absurd h c51) (fun _ => ?_)
  refine b_ldc2 X (v := 4294967296) kl_F_190 d_F_expected_54 ?_
  refine b_goto X (tgt := 61) d_F_expected_57 (by decide) ?_
  refine b_lor X d_F_expected_61 ?_
  exact b_lret X d_F_expected_62 ⟨rfl, rfl⟩
theorem cz_F_expected_ff (G : GG) (σ : St) (x1 : Int32) (q1 : Sq) (t1 : Ct y_F_mustBeRight c_F_mustBeRight 1 none rm_F_mustBeRight G [.ref (xa σ 0)] (WC G σ) (eqp (none) (WC G (xa σ, q1)))) (c5 : ¬ x1 < 0) (c16 : ¬ x1 ≤ (xi (xa σ, q1) 10 0)) : CtT y_F_expected c_F_expected 2 (some .long) rmt_F_expected G [.ref (xa σ 0), .int x1] (WC G σ) "java/lang/IllegalArgumentException" (fun w' => w' = (WC G (xa σ, q1))) := by
  refine CtT.of (by decide +kernel) (Nat.le_of_ble_eq_true rfl) (fun K X hex => ?_)
  show Lb K G _ _ 2 0 [(0, .ref (xa σ 0)), (1, .int x1)] [] _ 0 0
  refine b_aload_n X d_F_expected_0 0 rfl rfl ?_
  refine b_dV X cf_F_mustBeRight ci_F_mustBeRight ml_F_148 t1 0 rfl rfl (As := []) (rest := []) rfl (Nat.le_of_ble_eq_true rfl) ⟨Nat.le_of_ble_eq_true rfl, Nat.le_of_ble_eq_true rfl⟩ ⟨Nat.le_of_ble_eq_true rfl, Nat.le_of_ble_eq_true rfl⟩ rfl rfl d_F_expected_1 ?_
  refine b_iload_n X d_F_expected_4 1 rfl rfl ?_
  refine b_if_lt X (tgt := 19) d_F_expected_5 (by decide) (fun h => absurd h c5) (fun _ => ?_)
  refine b_iload_n X d_F_expected_8 1 rfl rfl ?_
  refine b_aload_n X d_F_expected_9 0 rfl rfl ?_
  refine b_get X fl_F_28 0 rfl (v := .ref (xa σ 10)) rfl d_F_expected_10 ?_
  refine b_dV X cf_I_size ci_I_size ml_F_135 (ct_I_size_ G (xa σ, q1) ) 10 rfl rfl (As := []) (rest := [.int x1]) rfl (Nat.le_of_ble_eq_true rfl) ⟨Nat.le_of_ble_eq_true rfl, Nat.le_of_ble_eq_true rfl⟩ ⟨Nat.le_of_ble_eq_true rfl, Nat.le_of_ble_eq_true rfl⟩ rfl rfl d_F_expected_13 ?_
  refine b_icmp_le X (tgt := 29) d_F_expected_16 (by decide) (fun h => absurd h c16) (fun _ => ?_)
  exact b_throw X hex at_IllegalArgumentException ⟨by decide +kernel, by decide +kernel⟩ (ws_t 498 (by decide +kernel) rfl) (ws_t 499 (by decide +kernel) rfl) (ws_t 15 (by decide +kernel) rfl) (tx := "no such place") (List.mem_of_getElem? (i := 13) rfl) ⟨Nat.le_of_ble_eq_true rfl, Nat.le_of_ble_eq_true rfl, Nat.le_of_ble_eq_true rfl, Nat.le_of_ble_eq_true rfl⟩ d_F_expected_19 d_F_expected_22 d_F_expected_23 d_F_expected_25 d_F_expected_28 rfl
theorem cz_F_expected_z1 (G : GG) (σ : St) (x1 : Int32) (q1 : Sq) (z1 : CtT y_F_mustBeRight c_F_mustBeRight 1 none rmt_F_mustBeRight G [.ref (xa σ 0)] (WC G σ) "java/lang/IllegalStateException" (fun w' => w' = WC G (xa σ, q1))) : CtT y_F_expected c_F_expected 2 (some .long) rmt_F_expected G [.ref (xa σ 0), .int x1] (WC G σ) "java/lang/IllegalStateException" (fun w' => w' = (WC G (xa σ, q1))) := by
  refine CtT.of (by decide +kernel) (Nat.le_of_ble_eq_true rfl) (fun K X hex => ?_)
  show Lb K G _ _ 2 0 [(0, .ref (xa σ 0)), (1, .int x1)] [] _ 0 0
  refine b_aload_n X d_F_expected_0 0 rfl rfl ?_
  refine b_callT X cf_F_mustBeRight ci_F_mustBeRight ml_F_148 z1 0 rfl rfl (As := []) (rest := []) rfl (Nat.le_of_ble_eq_true rfl) ⟨Nat.le_of_ble_eq_true rfl, Nat.le_of_ble_eq_true rfl⟩ ⟨Nat.le_of_ble_eq_true rfl, Nat.le_of_ble_eq_true rfl⟩ rfl d_F_expected_1 (fun w' h => ?_)
  subst h
  exact b_out X hex rfl ⟨Nat.le_of_ble_eq_true rfl, Nat.le_of_ble_eq_true rfl⟩
theorem ct_F_isNothing_ (G : GG) (σ : St) (x1 : Int32) (q1 : Sq) (t1 : Ct y_F_mustBeRight c_F_mustBeRight 1 none rm_F_mustBeRight G [.ref (xa σ 0)] (WC G σ) (eqp (none) (WC G (xa σ, q1)))) (t6 : Ct y_F_mustBeRule c_F_mustBeRule 2 none rm_F_mustBeRule G [.ref (xa σ 0), .int x1] (WC G (xa σ, q1)) (eqp (none) (WC G (xa σ, q1)))) (z17 : narrow .boolean (.int (hasB (Int32.toInt64 (xi (xa σ, q1) 5 3)) x1)) = .int (hasB (Int32.toInt64 (xi (xa σ, q1) 5 3)) x1)) : Ct y_F_isNothing c_F_isNothing 2 (some .boolean) rm_F_isNothing G [.ref (xa σ 0), .int x1] (WC G σ) (eqp (some (.int (hasB (Int32.toInt64 (xi (xa σ, q1) 5 3)) x1))) (WC G (xa σ, q1))) := by
  refine Ct.of (by decide +kernel) (Nat.le_of_ble_eq_true rfl) (fun K X => ?_)
  show Lb K G _ _ 2 0 [(0, .ref (xa σ 0)), (1, .int x1)] [] _ 0 0
  refine b_aload_n X d_F_isNothing_0 0 rfl rfl ?_
  refine b_dV X cf_F_mustBeRight ci_F_mustBeRight ml_F_148 t1 0 rfl rfl (As := []) (rest := []) rfl (Nat.le_of_ble_eq_true rfl) ⟨Nat.le_of_ble_eq_true rfl, Nat.le_of_ble_eq_true rfl⟩ ⟨Nat.le_of_ble_eq_true rfl, Nat.le_of_ble_eq_true rfl⟩ rfl rfl d_F_isNothing_1 ?_
  refine b_aload_n X d_F_isNothing_4 0 rfl rfl ?_
  refine b_iload_n X d_F_isNothing_5 1 rfl rfl ?_
  refine b_dV X cf_F_mustBeRule ci_F_mustBeRule ml_F_86 t6 0 rfl rfl (As := [.int x1]) (rest := []) rfl (Nat.le_of_ble_eq_true rfl) ⟨Nat.le_of_ble_eq_true rfl, Nat.le_of_ble_eq_true rfl⟩ ⟨Nat.le_of_ble_eq_true rfl, Nat.le_of_ble_eq_true rfl⟩ rfl rfl d_F_isNothing_6 ?_
  refine b_aload_n X d_F_isNothing_9 0 rfl rfl ?_
  refine b_get X fl_F_21 0 rfl (v := .ref (xa σ 5)) rfl d_F_isNothing_10 ?_
  refine b_iload_n X d_F_isNothing_13 1 rfl rfl ?_
  refine b_dV X cf_S_ruleIsNothing ci_S_ruleIsNothing ml_F_192 (ct_S_ruleIsNothing G (xa σ, q1) x1) 5 rfl rfl (As := [.int x1]) (rest := []) rfl (Nat.le_of_ble_eq_true rfl) ⟨Nat.le_of_ble_eq_true rfl, Nat.le_of_ble_eq_true rfl⟩ ⟨Nat.le_of_ble_eq_true rfl, Nat.le_of_ble_eq_true rfl⟩ rfl rfl d_F_isNothing_14 ?_
  exact b_zret X z17 d_F_isNothing_17 ⟨rfl, rfl⟩
theorem cz_F_isNothing_z6 (G : GG) (σ : St) (x1 : Int32) (q1 : Sq) (t1 : Ct y_F_mustBeRight c_F_mustBeRight 1 none rm_F_mustBeRight G [.ref (xa σ 0)] (WC G σ) (eqp (none) (WC G (xa σ, q1)))) (z6 : CtT y_F_mustBeRule c_F_mustBeRule 2 none rmt_F_mustBeRule G [.ref (xa σ 0), .int x1] (WC G (xa σ, q1)) "java/lang/IndexOutOfBoundsException" (fun w' => w' = WC G (xa σ, q1))) : CtT y_F_isNothing c_F_isNothing 2 (some .boolean) rmt_F_isNothing G [.ref (xa σ 0), .int x1] (WC G σ) "java/lang/IndexOutOfBoundsException" (fun w' => w' = (WC G (xa σ, q1))) := by
  refine CtT.of (by decide +kernel) (Nat.le_of_ble_eq_true rfl) (fun K X hex => ?_)
  show Lb K G _ _ 2 0 [(0, .ref (xa σ 0)), (1, .int x1)] [] _ 0 0
  refine b_aload_n X d_F_isNothing_0 0 rfl rfl ?_
  refine b_dV X cf_F_mustBeRight ci_F_mustBeRight ml_F_148 t1 0 rfl rfl (As := []) (rest := []) rfl (Nat.le_of_ble_eq_true rfl) ⟨Nat.le_of_ble_eq_true rfl, Nat.le_of_ble_eq_true rfl⟩ ⟨Nat.le_of_ble_eq_true rfl, Nat.le_of_ble_eq_true rfl⟩ rfl rfl d_F_isNothing_1 ?_
  refine b_aload_n X d_F_isNothing_4 0 rfl rfl ?_
  refine b_iload_n X d_F_isNothing_5 1 rfl rfl ?_
  refine b_callT X cf_F_mustBeRule ci_F_mustBeRule ml_F_86 z6 0 rfl rfl (As := [.int x1]) (rest := []) rfl (Nat.le_of_ble_eq_true rfl) ⟨Nat.le_of_ble_eq_true rfl, Nat.le_of_ble_eq_true rfl⟩ ⟨Nat.le_of_ble_eq_true rfl, Nat.le_of_ble_eq_true rfl⟩ rfl d_F_isNothing_6 (fun w' h => ?_)
  subst h
  exact b_out X hex rfl ⟨Nat.le_of_ble_eq_true rfl, Nat.le_of_ble_eq_true rfl⟩
theorem cz_F_isNothing_z1 (G : GG) (σ : St) (x1 : Int32) (q1 : Sq) (z1 : CtT y_F_mustBeRight c_F_mustBeRight 1 none rmt_F_mustBeRight G [.ref (xa σ 0)] (WC G σ) "java/lang/IllegalStateException" (fun w' => w' = WC G (xa σ, q1))) : CtT y_F_isNothing c_F_isNothing 2 (some .boolean) rmt_F_isNothing G [.ref (xa σ 0), .int x1] (WC G σ) "java/lang/IllegalStateException" (fun w' => w' = (WC G (xa σ, q1))) := by
  refine CtT.of (by decide +kernel) (Nat.le_of_ble_eq_true rfl) (fun K X hex => ?_)
  show Lb K G _ _ 2 0 [(0, .ref (xa σ 0)), (1, .int x1)] [] _ 0 0
  refine b_aload_n X d_F_isNothing_0 0 rfl rfl ?_
  refine b_callT X cf_F_mustBeRight ci_F_mustBeRight ml_F_148 z1 0 rfl rfl (As := []) (rest := []) rfl (Nat.le_of_ble_eq_true rfl) ⟨Nat.le_of_ble_eq_true rfl, Nat.le_of_ble_eq_true rfl⟩ ⟨Nat.le_of_ble_eq_true rfl, Nat.le_of_ble_eq_true rfl⟩ rfl d_F_isNothing_1 (fun w' h => ?_)
  subst h
  exact b_out X hex rfl ⟨Nat.le_of_ble_eq_true rfl, Nat.le_of_ble_eq_true rfl⟩
theorem ct_F_first_ (G : GG) (σ : St) (x1 : Int32) (q1 : Sq) (n14 : Nat) (t1 : Ct y_F_mustBeRight c_F_mustBeRight 1 none rm_F_mustBeRight G [.ref (xa σ 0)] (WC G σ) (eqp (none) (WC G (xa σ, q1)))) (t6 : Ct y_F_mustBeRule c_F_mustBeRule 2 none rm_F_mustBeRule G [.ref (xa σ 0), .int x1] (WC G (xa σ, q1)) (eqp (none) (WC G (xa σ, q1)))) (e14 : x1 = nI n14) (h14 : n14 < 16) : Ct y_F_first c_F_first 2 (some .long) rm_F_first G [.ref (xa σ 0), .int x1] (WC G σ) (eqp (some (.long (xl (xa σ, q1) 8 n14))) (WC G (xa σ, q1))) := by
  refine Ct.of (by decide +kernel) (Nat.le_of_ble_eq_true rfl) (fun K X => ?_)
  show Lb K G _ _ 2 0 [(0, .ref (xa σ 0)), (1, .int x1)] [] _ 0 0
  refine b_aload_n X d_F_first_0 0 rfl rfl ?_
  refine b_dV X cf_F_mustBeRight ci_F_mustBeRight ml_F_148 t1 0 rfl rfl (As := []) (rest := []) rfl (Nat.le_of_ble_eq_true rfl) ⟨Nat.le_of_ble_eq_true rfl, Nat.le_of_ble_eq_true rfl⟩ ⟨Nat.le_of_ble_eq_true rfl, Nat.le_of_ble_eq_true rfl⟩ rfl rfl d_F_first_1 ?_
  refine b_aload_n X d_F_first_4 0 rfl rfl ?_
  refine b_iload_n X d_F_first_5 1 rfl rfl ?_
  refine b_dV X cf_F_mustBeRule ci_F_mustBeRule ml_F_86 t6 0 rfl rfl (As := [.int x1]) (rest := []) rfl (Nat.le_of_ble_eq_true rfl) ⟨Nat.le_of_ble_eq_true rfl, Nat.le_of_ble_eq_true rfl⟩ ⟨Nat.le_of_ble_eq_true rfl, Nat.le_of_ble_eq_true rfl⟩ rfl rfl d_F_first_6 ?_
  refine b_aload_n X d_F_first_9 0 rfl rfl ?_
  refine b_get X fl_F_21 0 rfl (v := .ref (xa σ 5)) rfl d_F_first_10 ?_
  refine b_iload_n X d_F_first_13 1 rfl rfl ?_
  refine b_dV X cf_S_ruleFirst ci_S_ruleFirst ml_F_196 (ct_S_ruleFirst_ G (xa σ, q1) x1 n14 e14 h14) 5 rfl rfl (As := [.int x1]) (rest := []) rfl (Nat.le_of_ble_eq_true rfl) ⟨Nat.le_of_ble_eq_true rfl, Nat.le_of_ble_eq_true rfl⟩ ⟨Nat.le_of_ble_eq_true rfl, Nat.le_of_ble_eq_true rfl⟩ rfl rfl d_F_first_14 ?_
  exact b_lret X d_F_first_17 ⟨rfl, rfl⟩
theorem cz_F_first_z6 (G : GG) (σ : St) (x1 : Int32) (q1 : Sq) (t1 : Ct y_F_mustBeRight c_F_mustBeRight 1 none rm_F_mustBeRight G [.ref (xa σ 0)] (WC G σ) (eqp (none) (WC G (xa σ, q1)))) (z6 : CtT y_F_mustBeRule c_F_mustBeRule 2 none rmt_F_mustBeRule G [.ref (xa σ 0), .int x1] (WC G (xa σ, q1)) "java/lang/IndexOutOfBoundsException" (fun w' => w' = WC G (xa σ, q1))) : CtT y_F_first c_F_first 2 (some .long) rmt_F_first G [.ref (xa σ 0), .int x1] (WC G σ) "java/lang/IndexOutOfBoundsException" (fun w' => w' = (WC G (xa σ, q1))) := by
  refine CtT.of (by decide +kernel) (Nat.le_of_ble_eq_true rfl) (fun K X hex => ?_)
  show Lb K G _ _ 2 0 [(0, .ref (xa σ 0)), (1, .int x1)] [] _ 0 0
  refine b_aload_n X d_F_first_0 0 rfl rfl ?_
  refine b_dV X cf_F_mustBeRight ci_F_mustBeRight ml_F_148 t1 0 rfl rfl (As := []) (rest := []) rfl (Nat.le_of_ble_eq_true rfl) ⟨Nat.le_of_ble_eq_true rfl, Nat.le_of_ble_eq_true rfl⟩ ⟨Nat.le_of_ble_eq_true rfl, Nat.le_of_ble_eq_true rfl⟩ rfl rfl d_F_first_1 ?_
  refine b_aload_n X d_F_first_4 0 rfl rfl ?_
  refine b_iload_n X d_F_first_5 1 rfl rfl ?_
  refine b_callT X cf_F_mustBeRule ci_F_mustBeRule ml_F_86 z6 0 rfl rfl (As := [.int x1]) (rest := []) rfl (Nat.le_of_ble_eq_true rfl) ⟨Nat.le_of_ble_eq_true rfl, Nat.le_of_ble_eq_true rfl⟩ ⟨Nat.le_of_ble_eq_true rfl, Nat.le_of_ble_eq_true rfl⟩ rfl d_F_first_6 (fun w' h => ?_)
  subst h
  exact b_out X hex rfl ⟨Nat.le_of_ble_eq_true rfl, Nat.le_of_ble_eq_true rfl⟩
theorem cz_F_first_z1 (G : GG) (σ : St) (x1 : Int32) (q1 : Sq) (z1 : CtT y_F_mustBeRight c_F_mustBeRight 1 none rmt_F_mustBeRight G [.ref (xa σ 0)] (WC G σ) "java/lang/IllegalStateException" (fun w' => w' = WC G (xa σ, q1))) : CtT y_F_first c_F_first 2 (some .long) rmt_F_first G [.ref (xa σ 0), .int x1] (WC G σ) "java/lang/IllegalStateException" (fun w' => w' = (WC G (xa σ, q1))) := by
  refine CtT.of (by decide +kernel) (Nat.le_of_ble_eq_true rfl) (fun K X hex => ?_)
  show Lb K G _ _ 2 0 [(0, .ref (xa σ 0)), (1, .int x1)] [] _ 0 0
  refine b_aload_n X d_F_first_0 0 rfl rfl ?_
  refine b_callT X cf_F_mustBeRight ci_F_mustBeRight ml_F_148 z1 0 rfl rfl (As := []) (rest := []) rfl (Nat.le_of_ble_eq_true rfl) ⟨Nat.le_of_ble_eq_true rfl, Nat.le_of_ble_eq_true rfl⟩ ⟨Nat.le_of_ble_eq_true rfl, Nat.le_of_ble_eq_true rfl⟩ rfl d_F_first_1 (fun w' h => ?_)
  subst h
  exact b_out X hex rfl ⟨Nat.le_of_ble_eq_true rfl, Nat.le_of_ble_eq_true rfl⟩
theorem ct_F_following_ (G : GG) (σ : St) (x1 : Int32) (q1 : Sq) (n14 : Nat) (t1 : Ct y_F_mustBeRight c_F_mustBeRight 1 none rm_F_mustBeRight G [.ref (xa σ 0)] (WC G σ) (eqp (none) (WC G (xa σ, q1)))) (t6 : Ct y_F_mustBeRule c_F_mustBeRule 2 none rm_F_mustBeRule G [.ref (xa σ 0), .int x1] (WC G (xa σ, q1)) (eqp (none) (WC G (xa σ, q1)))) (e14 : x1 = nI n14) (h14 : n14 < 16) : Ct y_F_following c_F_following 2 (some .long) rm_F_following G [.ref (xa σ 0), .int x1] (WC G σ) (eqp (some (.long (xl (xa σ, q1) 9 n14))) (WC G (xa σ, q1))) := by
  refine Ct.of (by decide +kernel) (Nat.le_of_ble_eq_true rfl) (fun K X => ?_)
  show Lb K G _ _ 2 0 [(0, .ref (xa σ 0)), (1, .int x1)] [] _ 0 0
  refine b_aload_n X d_F_following_0 0 rfl rfl ?_
  refine b_dV X cf_F_mustBeRight ci_F_mustBeRight ml_F_148 t1 0 rfl rfl (As := []) (rest := []) rfl (Nat.le_of_ble_eq_true rfl) ⟨Nat.le_of_ble_eq_true rfl, Nat.le_of_ble_eq_true rfl⟩ ⟨Nat.le_of_ble_eq_true rfl, Nat.le_of_ble_eq_true rfl⟩ rfl rfl d_F_following_1 ?_
  refine b_aload_n X d_F_following_4 0 rfl rfl ?_
  refine b_iload_n X d_F_following_5 1 rfl rfl ?_
  refine b_dV X cf_F_mustBeRule ci_F_mustBeRule ml_F_86 t6 0 rfl rfl (As := [.int x1]) (rest := []) rfl (Nat.le_of_ble_eq_true rfl) ⟨Nat.le_of_ble_eq_true rfl, Nat.le_of_ble_eq_true rfl⟩ ⟨Nat.le_of_ble_eq_true rfl, Nat.le_of_ble_eq_true rfl⟩ rfl rfl d_F_following_6 ?_
  refine b_aload_n X d_F_following_9 0 rfl rfl ?_
  refine b_get X fl_F_21 0 rfl (v := .ref (xa σ 5)) rfl d_F_following_10 ?_
  refine b_iload_n X d_F_following_13 1 rfl rfl ?_
  refine b_dV X cf_S_ruleFollowing ci_S_ruleFollowing ml_F_200 (ct_S_ruleFollowing_ G (xa σ, q1) x1 n14 e14 h14) 5 rfl rfl (As := [.int x1]) (rest := []) rfl (Nat.le_of_ble_eq_true rfl) ⟨Nat.le_of_ble_eq_true rfl, Nat.le_of_ble_eq_true rfl⟩ ⟨Nat.le_of_ble_eq_true rfl, Nat.le_of_ble_eq_true rfl⟩ rfl rfl d_F_following_14 ?_
  exact b_lret X d_F_following_17 ⟨rfl, rfl⟩
theorem cz_F_following_z6 (G : GG) (σ : St) (x1 : Int32) (q1 : Sq) (t1 : Ct y_F_mustBeRight c_F_mustBeRight 1 none rm_F_mustBeRight G [.ref (xa σ 0)] (WC G σ) (eqp (none) (WC G (xa σ, q1)))) (z6 : CtT y_F_mustBeRule c_F_mustBeRule 2 none rmt_F_mustBeRule G [.ref (xa σ 0), .int x1] (WC G (xa σ, q1)) "java/lang/IndexOutOfBoundsException" (fun w' => w' = WC G (xa σ, q1))) : CtT y_F_following c_F_following 2 (some .long) rmt_F_following G [.ref (xa σ 0), .int x1] (WC G σ) "java/lang/IndexOutOfBoundsException" (fun w' => w' = (WC G (xa σ, q1))) := by
  refine CtT.of (by decide +kernel) (Nat.le_of_ble_eq_true rfl) (fun K X hex => ?_)
  show Lb K G _ _ 2 0 [(0, .ref (xa σ 0)), (1, .int x1)] [] _ 0 0
  refine b_aload_n X d_F_following_0 0 rfl rfl ?_
  refine b_dV X cf_F_mustBeRight ci_F_mustBeRight ml_F_148 t1 0 rfl rfl (As := []) (rest := []) rfl (Nat.le_of_ble_eq_true rfl) ⟨Nat.le_of_ble_eq_true rfl, Nat.le_of_ble_eq_true rfl⟩ ⟨Nat.le_of_ble_eq_true rfl, Nat.le_of_ble_eq_true rfl⟩ rfl rfl d_F_following_1 ?_
  refine b_aload_n X d_F_following_4 0 rfl rfl ?_
  refine b_iload_n X d_F_following_5 1 rfl rfl ?_
  refine b_callT X cf_F_mustBeRule ci_F_mustBeRule ml_F_86 z6 0 rfl rfl (As := [.int x1]) (rest := []) rfl (Nat.le_of_ble_eq_true rfl) ⟨Nat.le_of_ble_eq_true rfl, Nat.le_of_ble_eq_true rfl⟩ ⟨Nat.le_of_ble_eq_true rfl, Nat.le_of_ble_eq_true rfl⟩ rfl d_F_following_6 (fun w' h => ?_)
  subst h
  exact b_out X hex rfl ⟨Nat.le_of_ble_eq_true rfl, Nat.le_of_ble_eq_true rfl⟩
theorem cz_F_following_z1 (G : GG) (σ : St) (x1 : Int32) (q1 : Sq) (z1 : CtT y_F_mustBeRight c_F_mustBeRight 1 none rmt_F_mustBeRight G [.ref (xa σ 0)] (WC G σ) "java/lang/IllegalStateException" (fun w' => w' = WC G (xa σ, q1))) : CtT y_F_following c_F_following 2 (some .long) rmt_F_following G [.ref (xa σ 0), .int x1] (WC G σ) "java/lang/IllegalStateException" (fun w' => w' = (WC G (xa σ, q1))) := by
  refine CtT.of (by decide +kernel) (Nat.le_of_ble_eq_true rfl) (fun K X hex => ?_)
  show Lb K G _ _ 2 0 [(0, .ref (xa σ 0)), (1, .int x1)] [] _ 0 0
  refine b_aload_n X d_F_following_0 0 rfl rfl ?_
  refine b_callT X cf_F_mustBeRight ci_F_mustBeRight ml_F_148 z1 0 rfl rfl (As := []) (rest := []) rfl (Nat.le_of_ble_eq_true rfl) ⟨Nat.le_of_ble_eq_true rfl, Nat.le_of_ble_eq_true rfl⟩ ⟨Nat.le_of_ble_eq_true rfl, Nat.le_of_ble_eq_true rfl⟩ rfl d_F_following_1 (fun w' h => ?_)
  subst h
  exact b_out X hex rfl ⟨Nat.le_of_ble_eq_true rfl, Nat.le_of_ble_eq_true rfl⟩
theorem cz_F_lets_t (G : GG) (σ : St) (x1 : Int32) (x2 : Int32) (q1 : Sq) (t1 : Ct y_F_mustBeRight c_F_mustBeRight 1 none rm_F_mustBeRight G [.ref (xa σ 0)] (WC G σ) (eqp (none) (WC G (xa σ, q1)))) (t6 : Ct y_F_mustBeRule c_F_mustBeRule 2 none rm_F_mustBeRule G [.ref (xa σ 0), .int x1] (WC G (xa σ, q1)) (eqp (none) (WC G (xa σ, q1)))) (c10 : x2 < 0) : CtT y_F_lets c_F_lets 3 (some .int) rmt_F_lets G [.ref (xa σ 0), .int x1, .int x2] (WC G σ) "java/lang/IllegalArgumentException" (fun w' => w' = (WC G (xa σ, q1))) := by
  refine CtT.of (by decide +kernel) (Nat.le_of_ble_eq_true rfl) (fun K X hex => ?_)
  show Lb K G _ _ 3 0 [(0, .ref (xa σ 0)), (1, .int x1), (2, .int x2)] [] _ 0 0
  refine b_aload_n X d_F_lets_0 0 rfl rfl ?_
  refine b_dV X cf_F_mustBeRight ci_F_mustBeRight ml_F_148 t1 0 rfl rfl (As := []) (rest := []) rfl (Nat.le_of_ble_eq_true rfl) ⟨Nat.le_of_ble_eq_true rfl, Nat.le_of_ble_eq_true rfl⟩ ⟨Nat.le_of_ble_eq_true rfl, Nat.le_of_ble_eq_true rfl⟩ rfl rfl d_F_lets_1 ?_
  refine b_aload_n X d_F_lets_4 0 rfl rfl ?_
  refine b_iload_n X d_F_lets_5 1 rfl rfl ?_
  refine b_dV X cf_F_mustBeRule ci_F_mustBeRule ml_F_86 t6 0 rfl rfl (As := [.int x1]) (rest := []) rfl (Nat.le_of_ble_eq_true rfl) ⟨Nat.le_of_ble_eq_true rfl, Nat.le_of_ble_eq_true rfl⟩ ⟨Nat.le_of_ble_eq_true rfl, Nat.le_of_ble_eq_true rfl⟩ rfl rfl d_F_lets_6 ?_
  refine b_iload_n X d_F_lets_9 2 rfl rfl ?_
  refine b_if_lt X (tgt := 19) d_F_lets_10 (by decide) (fun _ => ?_) (fun h => absurd c10 h)
  exact b_throw X hex at_IllegalArgumentException ⟨by decide +kernel, by decide +kernel⟩ (ws_t 498 (by decide +kernel) rfl) (ws_t 499 (by decide +kernel) rfl) (ws_t 15 (by decide +kernel) rfl) (tx := "no such token") (List.mem_of_getElem? (i := 6) rfl) ⟨Nat.le_of_ble_eq_true rfl, Nat.le_of_ble_eq_true rfl, Nat.le_of_ble_eq_true rfl, Nat.le_of_ble_eq_true rfl⟩ d_F_lets_19 d_F_lets_22 d_F_lets_23 d_F_lets_25 d_F_lets_28 rfl
theorem ct_F_lets_ft (G : GG) (σ : St) (x1 : Int32) (x2 : Int32) (q1 : Sq) (r35 : Int32) (t1 : Ct y_F_mustBeRight c_F_mustBeRight 1 none rm_F_mustBeRight G [.ref (xa σ 0)] (WC G σ) (eqp (none) (WC G (xa σ, q1)))) (t6 : Ct y_F_mustBeRule c_F_mustBeRule 2 none rm_F_mustBeRule G [.ref (xa σ 0), .int x1] (WC G (xa σ, q1)) (eqp (none) (WC G (xa σ, q1)))) (c10 : ¬ x2 < 0) (c16 : x2 ≤ 32) (t35 : Ct y_S_letIn c_S_letIn 6 (some .int) rm_S_letIn G [.ref (xa σ 5), .int x1, .int x2] (WC G (xa σ, q1)) (eqp (some (.int r35)) (WC G (xa σ, q1)))) : Ct y_F_lets c_F_lets 3 (some .int) rm_F_lets G [.ref (xa σ 0), .int x1, .int x2] (WC G σ) (eqp (some (.int r35)) (WC G (xa σ, q1))) := by
  refine Ct.of (by decide +kernel) (Nat.le_of_ble_eq_true rfl) (fun K X => ?_)
  show Lb K G _ _ 3 0 [(0, .ref (xa σ 0)), (1, .int x1), (2, .int x2)] [] _ 0 0
  refine b_aload_n X d_F_lets_0 0 rfl rfl ?_
  refine b_dV X cf_F_mustBeRight ci_F_mustBeRight ml_F_148 t1 0 rfl rfl (As := []) (rest := []) rfl (Nat.le_of_ble_eq_true rfl) ⟨Nat.le_of_ble_eq_true rfl, Nat.le_of_ble_eq_true rfl⟩ ⟨Nat.le_of_ble_eq_true rfl, Nat.le_of_ble_eq_true rfl⟩ rfl rfl d_F_lets_1 ?_
  refine b_aload_n X d_F_lets_4 0 rfl rfl ?_
  refine b_iload_n X d_F_lets_5 1 rfl rfl ?_
  refine b_dV X cf_F_mustBeRule ci_F_mustBeRule ml_F_86 t6 0 rfl rfl (As := [.int x1]) (rest := []) rfl (Nat.le_of_ble_eq_true rfl) ⟨Nat.le_of_ble_eq_true rfl, Nat.le_of_ble_eq_true rfl⟩ ⟨Nat.le_of_ble_eq_true rfl, Nat.le_of_ble_eq_true rfl⟩ rfl rfl d_F_lets_6 ?_
  refine b_iload_n X d_F_lets_9 2 rfl rfl ?_
  refine b_if_lt X (tgt := 19) d_F_lets_10 (by decide) (fun h => absurd h c10) (fun _ => ?_)
  refine b_iload_n X d_F_lets_13 2 rfl rfl ?_
  refine b_bipush X (v := 32) d_F_lets_14 (by decide) ?_
  refine b_icmp_le X (tgt := 29) d_F_lets_16 (by decide) (fun _ => ?_) (fun h => absurd c16 h)
  refine b_aload_n X d_F_lets_29 0 rfl rfl ?_
  refine b_get X fl_F_21 0 rfl (v := .ref (xa σ 5)) rfl d_F_lets_30 ?_
  refine b_iload_n X d_F_lets_33 1 rfl rfl ?_
  refine b_iload_n X d_F_lets_34 2 rfl rfl ?_
  refine b_dV X cf_S_letIn ci_S_letIn ml_F_203 t35 5 rfl rfl (As := [.int x1, .int x2]) (rest := []) rfl (Nat.le_of_ble_eq_true rfl) ⟨Nat.le_of_ble_eq_true rfl, Nat.le_of_ble_eq_true rfl⟩ ⟨Nat.le_of_ble_eq_true rfl, Nat.le_of_ble_eq_true rfl⟩ rfl rfl d_F_lets_35 ?_
  exact b_iret X d_F_lets_38 ⟨rfl, rfl⟩
theorem cz_F_lets_ff (G : GG) (σ : St) (x1 : Int32) (x2 : Int32) (q1 : Sq) (t1 : Ct y_F_mustBeRight c_F_mustBeRight 1 none rm_F_mustBeRight G [.ref (xa σ 0)] (WC G σ) (eqp (none) (WC G (xa σ, q1)))) (t6 : Ct y_F_mustBeRule c_F_mustBeRule 2 none rm_F_mustBeRule G [.ref (xa σ 0), .int x1] (WC G (xa σ, q1)) (eqp (none) (WC G (xa σ, q1)))) (c10 : ¬ x2 < 0) (c16 : ¬ x2 ≤ 32) : CtT y_F_lets c_F_lets 3 (some .int) rmt_F_lets G [.ref (xa σ 0), .int x1, .int x2] (WC G σ) "java/lang/IllegalArgumentException" (fun w' => w' = (WC G (xa σ, q1))) := by
  refine CtT.of (by decide +kernel) (Nat.le_of_ble_eq_true rfl) (fun K X hex => ?_)
  show Lb K G _ _ 3 0 [(0, .ref (xa σ 0)), (1, .int x1), (2, .int x2)] [] _ 0 0
  refine b_aload_n X d_F_lets_0 0 rfl rfl ?_
  refine b_dV X cf_F_mustBeRight ci_F_mustBeRight ml_F_148 t1 0 rfl rfl (As := []) (rest := []) rfl (Nat.le_of_ble_eq_true rfl) ⟨Nat.le_of_ble_eq_true rfl, Nat.le_of_ble_eq_true rfl⟩ ⟨Nat.le_of_ble_eq_true rfl, Nat.le_of_ble_eq_true rfl⟩ rfl rfl d_F_lets_1 ?_
  refine b_aload_n X d_F_lets_4 0 rfl rfl ?_
  refine b_iload_n X d_F_lets_5 1 rfl rfl ?_
  refine b_dV X cf_F_mustBeRule ci_F_mustBeRule ml_F_86 t6 0 rfl rfl (As := [.int x1]) (rest := []) rfl (Nat.le_of_ble_eq_true rfl) ⟨Nat.le_of_ble_eq_true rfl, Nat.le_of_ble_eq_true rfl⟩ ⟨Nat.le_of_ble_eq_true rfl, Nat.le_of_ble_eq_true rfl⟩ rfl rfl d_F_lets_6 ?_
  refine b_iload_n X d_F_lets_9 2 rfl rfl ?_
  refine b_if_lt X (tgt := 19) d_F_lets_10 (by decide) (fun h => absurd h c10) (fun _ => ?_)
  refine b_iload_n X d_F_lets_13 2 rfl rfl ?_
  refine b_bipush X (v := 32) d_F_lets_14 (by decide) ?_
  refine b_icmp_le X (tgt := 29) d_F_lets_16 (by decide) (fun h => absurd h c16) (fun _ => ?_)
  exact b_throw X hex at_IllegalArgumentException ⟨by decide +kernel, by decide +kernel⟩ (ws_t 498 (by decide +kernel) rfl) (ws_t 499 (by decide +kernel) rfl) (ws_t 15 (by decide +kernel) rfl) (tx := "no such token") (List.mem_of_getElem? (i := 6) rfl) ⟨Nat.le_of_ble_eq_true rfl, Nat.le_of_ble_eq_true rfl, Nat.le_of_ble_eq_true rfl, Nat.le_of_ble_eq_true rfl⟩ d_F_lets_19 d_F_lets_22 d_F_lets_23 d_F_lets_25 d_F_lets_28 rfl
theorem cz_F_lets_z6 (G : GG) (σ : St) (x1 : Int32) (x2 : Int32) (q1 : Sq) (t1 : Ct y_F_mustBeRight c_F_mustBeRight 1 none rm_F_mustBeRight G [.ref (xa σ 0)] (WC G σ) (eqp (none) (WC G (xa σ, q1)))) (z6 : CtT y_F_mustBeRule c_F_mustBeRule 2 none rmt_F_mustBeRule G [.ref (xa σ 0), .int x1] (WC G (xa σ, q1)) "java/lang/IndexOutOfBoundsException" (fun w' => w' = WC G (xa σ, q1))) : CtT y_F_lets c_F_lets 3 (some .int) rmt_F_lets G [.ref (xa σ 0), .int x1, .int x2] (WC G σ) "java/lang/IndexOutOfBoundsException" (fun w' => w' = (WC G (xa σ, q1))) := by
  refine CtT.of (by decide +kernel) (Nat.le_of_ble_eq_true rfl) (fun K X hex => ?_)
  show Lb K G _ _ 3 0 [(0, .ref (xa σ 0)), (1, .int x1), (2, .int x2)] [] _ 0 0
  refine b_aload_n X d_F_lets_0 0 rfl rfl ?_
  refine b_dV X cf_F_mustBeRight ci_F_mustBeRight ml_F_148 t1 0 rfl rfl (As := []) (rest := []) rfl (Nat.le_of_ble_eq_true rfl) ⟨Nat.le_of_ble_eq_true rfl, Nat.le_of_ble_eq_true rfl⟩ ⟨Nat.le_of_ble_eq_true rfl, Nat.le_of_ble_eq_true rfl⟩ rfl rfl d_F_lets_1 ?_
  refine b_aload_n X d_F_lets_4 0 rfl rfl ?_
  refine b_iload_n X d_F_lets_5 1 rfl rfl ?_
  refine b_callT X cf_F_mustBeRule ci_F_mustBeRule ml_F_86 z6 0 rfl rfl (As := [.int x1]) (rest := []) rfl (Nat.le_of_ble_eq_true rfl) ⟨Nat.le_of_ble_eq_true rfl, Nat.le_of_ble_eq_true rfl⟩ ⟨Nat.le_of_ble_eq_true rfl, Nat.le_of_ble_eq_true rfl⟩ rfl d_F_lets_6 (fun w' h => ?_)
  subst h
  exact b_out X hex rfl ⟨Nat.le_of_ble_eq_true rfl, Nat.le_of_ble_eq_true rfl⟩
theorem cz_F_lets_z1 (G : GG) (σ : St) (x1 : Int32) (x2 : Int32) (q1 : Sq) (z1 : CtT y_F_mustBeRight c_F_mustBeRight 1 none rmt_F_mustBeRight G [.ref (xa σ 0)] (WC G σ) "java/lang/IllegalStateException" (fun w' => w' = WC G (xa σ, q1))) : CtT y_F_lets c_F_lets 3 (some .int) rmt_F_lets G [.ref (xa σ 0), .int x1, .int x2] (WC G σ) "java/lang/IllegalStateException" (fun w' => w' = (WC G (xa σ, q1))) := by
  refine CtT.of (by decide +kernel) (Nat.le_of_ble_eq_true rfl) (fun K X hex => ?_)
  show Lb K G _ _ 3 0 [(0, .ref (xa σ 0)), (1, .int x1), (2, .int x2)] [] _ 0 0
  refine b_aload_n X d_F_lets_0 0 rfl rfl ?_
  refine b_callT X cf_F_mustBeRight ci_F_mustBeRight ml_F_148 z1 0 rfl rfl (As := []) (rest := []) rfl (Nat.le_of_ble_eq_true rfl) ⟨Nat.le_of_ble_eq_true rfl, Nat.le_of_ble_eq_true rfl⟩ ⟨Nat.le_of_ble_eq_true rfl, Nat.le_of_ble_eq_true rfl⟩ rfl d_F_lets_1 (fun w' h => ?_)
  subst h
  exact b_out X hex rfl ⟨Nat.le_of_ble_eq_true rfl, Nat.le_of_ble_eq_true rfl⟩
theorem cz_F_count_t (G : GG) (σ : St) (x1 : Int32)  (c1 : x1 < 0) : CtT y_F_count c_F_count 2 (some .int) rmt_F_count G [.ref (xa σ 0), .int x1] (WC G σ) "java/lang/IllegalArgumentException" (fun w' => w' = (WC G σ)) := by
  refine CtT.of (by decide +kernel) (Nat.le_of_ble_eq_true rfl) (fun K X hex => ?_)
  show Lb K G _ _ 2 0 [(0, .ref (xa σ 0)), (1, .int x1)] [] _ 0 0
  refine b_iload_n X d_F_count_0 1 rfl rfl ?_
  refine b_if_lt X (tgt := 10) d_F_count_1 (by decide) (fun _ => ?_) (fun h => absurd c1 h)
  exact b_throw X hex at_IllegalArgumentException ⟨by decide +kernel, by decide +kernel⟩ (ws_t 498 (by decide +kernel) rfl) (ws_t 499 (by decide +kernel) rfl) (ws_t 15 (by decide +kernel) rfl) (tx := "nothing is counted by that number") (List.mem_of_getElem? (i := 14) rfl) ⟨Nat.le_of_ble_eq_true rfl, Nat.le_of_ble_eq_true rfl, Nat.le_of_ble_eq_true rfl, Nat.le_of_ble_eq_true rfl⟩ d_F_count_10 d_F_count_13 d_F_count_14 d_F_count_16 d_F_count_19 rfl
theorem ct_F_count_fttt (G : GG) (σ : St) (x1 : Int32) (n54 : Nat) (c1 : ¬ x1 < 0) (c7 : x1 < 18) (c21 : ¬ x1 = 0) (c34 : ¬ x1 = 1) (e54 : (x1 - 2) = nI n54) (h54 : n54 < 16) : Ct y_F_count c_F_count 2 (some .int) rm_F_count G [.ref (xa σ 0), .int x1] (WC G σ) (eqp (some (.int (altC σ n54))) (WC G σ)) := by
  refine Ct.of (by decide +kernel) (Nat.le_of_ble_eq_true rfl) (fun K X => ?_)
  show Lb K G _ _ 2 0 [(0, .ref (xa σ 0)), (1, .int x1)] [] _ 0 0
  refine b_iload_n X d_F_count_0 1 rfl rfl ?_
  refine b_if_lt X (tgt := 10) d_F_count_1 (by decide) (fun h => absurd h c1) (fun _ => ?_)
  refine b_iload_n X d_F_count_4 1 rfl rfl ?_
  refine b_bipush X (v := 18) d_F_count_5 (by decide) ?_
  refine b_icmp_lt X (tgt := 20) d_F_count_7 (by decide) (fun _ => ?_) (fun h => absurd c7 h)
  refine b_iload_n X d_F_count_20 1 rfl rfl ?_
  refine b_if_ne X (tgt := 32) d_F_count_21 (by decide) (fun _ => ?_) (fun h => absurd h c21)
  refine b_iload_n X d_F_count_32 1 rfl rfl ?_
  refine b_iconst X (v := 1) d_F_count_33 (by decide) ?_
  refine b_icmp_ne X (tgt := 47) d_F_count_34 (by decide) (fun _ => ?_) (fun h => absurd h c34)
  refine b_aload_n X d_F_count_47 0 rfl rfl ?_
  refine b_get X fl_F_12 0 rfl (v := .ref (xa σ 1)) rfl d_F_count_48 ?_
  refine b_iload_n X d_F_count_51 1 rfl rfl ?_
  refine b_iconst X (v := 2) d_F_count_52 (by decide) ?_
  refine b_isub X d_F_count_53 ?_
  refine b_dV X cf_G_alternatives ci_G_alternatives ml_F_90 (ct_G_alternatives G σ (x1 - 2) n54 e54 h54) 1 rfl rfl (As := [.int (x1 - 2)]) (rest := []) rfl (Nat.le_of_ble_eq_true rfl) ⟨Nat.le_of_ble_eq_true rfl, Nat.le_of_ble_eq_true rfl⟩ ⟨Nat.le_of_ble_eq_true rfl, Nat.le_of_ble_eq_true rfl⟩ rfl rfl d_F_count_54 ?_
  exact b_iret X d_F_count_57 ⟨rfl, rfl⟩
theorem ct_F_count_fttf (G : GG) (σ : St) (x1 : Int32)  (c1 : ¬ x1 < 0) (c7 : x1 < 18) (c21 : ¬ x1 = 0) (c34 : x1 = 1) : Ct y_F_count c_F_count 2 (some .int) rm_F_count G [.ref (xa σ 0), .int x1] (WC G σ) (eqp (some (.int (xi σ 10 0))) (WC G σ)) := by
  refine Ct.of (by decide +kernel) (Nat.le_of_ble_eq_true rfl) (fun K X => ?_)
  show Lb K G _ _ 2 0 [(0, .ref (xa σ 0)), (1, .int x1)] [] _ 0 0
  refine b_iload_n X d_F_count_0 1 rfl rfl ?_
  refine b_if_lt X (tgt := 10) d_F_count_1 (by decide) (fun h => absurd h c1) (fun _ => ?_)
  refine b_iload_n X d_F_count_4 1 rfl rfl ?_
  refine b_bipush X (v := 18) d_F_count_5 (by decide) ?_
  refine b_icmp_lt X (tgt := 20) d_F_count_7 (by decide) (fun _ => ?_) (fun h => absurd c7 h)
  refine b_iload_n X d_F_count_20 1 rfl rfl ?_
  refine b_if_ne X (tgt := 32) d_F_count_21 (by decide) (fun _ => ?_) (fun h => absurd h c21)
  refine b_iload_n X d_F_count_32 1 rfl rfl ?_
  refine b_iconst X (v := 1) d_F_count_33 (by decide) ?_
  refine b_icmp_ne X (tgt := 47) d_F_count_34 (by decide) (fun h => absurd c34 h) (fun _ => ?_)
  refine b_aload_n X d_F_count_37 0 rfl rfl ?_
  refine b_get X fl_F_28 0 rfl (v := .ref (xa σ 10)) rfl d_F_count_38 ?_
  refine b_dV X cf_I_size ci_I_size ml_F_135 (ct_I_size_ G σ ) 10 rfl rfl (As := []) (rest := []) rfl (Nat.le_of_ble_eq_true rfl) ⟨Nat.le_of_ble_eq_true rfl, Nat.le_of_ble_eq_true rfl⟩ ⟨Nat.le_of_ble_eq_true rfl, Nat.le_of_ble_eq_true rfl⟩ rfl rfl d_F_count_41 ?_
  refine b_goto X (tgt := 57) d_F_count_44 (by decide) ?_
  exact b_iret X d_F_count_57 ⟨rfl, rfl⟩
theorem ct_F_count_ftf (G : GG) (σ : St) (x1 : Int32)  (c1 : ¬ x1 < 0) (c7 : x1 < 18) (c21 : x1 = 0) : Ct y_F_count c_F_count 2 (some .int) rm_F_count G [.ref (xa σ 0), .int x1] (WC G σ) (eqp (some (.int (xi σ 1 0))) (WC G σ)) := by
  refine Ct.of (by decide +kernel) (Nat.le_of_ble_eq_true rfl) (fun K X => ?_)
  show Lb K G _ _ 2 0 [(0, .ref (xa σ 0)), (1, .int x1)] [] _ 0 0
  refine b_iload_n X d_F_count_0 1 rfl rfl ?_
  refine b_if_lt X (tgt := 10) d_F_count_1 (by decide) (fun h => absurd h c1) (fun _ => ?_)
  refine b_iload_n X d_F_count_4 1 rfl rfl ?_
  refine b_bipush X (v := 18) d_F_count_5 (by decide) ?_
  refine b_icmp_lt X (tgt := 20) d_F_count_7 (by decide) (fun _ => ?_) (fun h => absurd c7 h)
  refine b_iload_n X d_F_count_20 1 rfl rfl ?_
  refine b_if_ne X (tgt := 32) d_F_count_21 (by decide) (fun h => absurd c21 h) (fun _ => ?_)
  refine b_aload_n X d_F_count_24 0 rfl rfl ?_
  refine b_get X fl_F_12 0 rfl (v := .ref (xa σ 1)) rfl d_F_count_25 ?_
  refine b_dV X cf_G_rules ci_G_rules ml_F_69 (ct_G_rules_ G σ ) 1 rfl rfl (As := []) (rest := []) rfl (Nat.le_of_ble_eq_true rfl) ⟨Nat.le_of_ble_eq_true rfl, Nat.le_of_ble_eq_true rfl⟩ ⟨Nat.le_of_ble_eq_true rfl, Nat.le_of_ble_eq_true rfl⟩ rfl rfl d_F_count_28 ?_
  exact b_iret X d_F_count_31 ⟨rfl, rfl⟩
theorem cz_F_count_ff (G : GG) (σ : St) (x1 : Int32)  (c1 : ¬ x1 < 0) (c7 : ¬ x1 < 18) : CtT y_F_count c_F_count 2 (some .int) rmt_F_count G [.ref (xa σ 0), .int x1] (WC G σ) "java/lang/IllegalArgumentException" (fun w' => w' = (WC G σ)) := by
  refine CtT.of (by decide +kernel) (Nat.le_of_ble_eq_true rfl) (fun K X hex => ?_)
  show Lb K G _ _ 2 0 [(0, .ref (xa σ 0)), (1, .int x1)] [] _ 0 0
  refine b_iload_n X d_F_count_0 1 rfl rfl ?_
  refine b_if_lt X (tgt := 10) d_F_count_1 (by decide) (fun h => absurd h c1) (fun _ => ?_)
  refine b_iload_n X d_F_count_4 1 rfl rfl ?_
  refine b_bipush X (v := 18) d_F_count_5 (by decide) ?_
  refine b_icmp_lt X (tgt := 20) d_F_count_7 (by decide) (fun h => absurd h c7) (fun _ => ?_)
  exact b_throw X hex at_IllegalArgumentException ⟨by decide +kernel, by decide +kernel⟩ (ws_t 498 (by decide +kernel) rfl) (ws_t 499 (by decide +kernel) rfl) (ws_t 15 (by decide +kernel) rfl) (tx := "nothing is counted by that number") (List.mem_of_getElem? (i := 14) rfl) ⟨Nat.le_of_ble_eq_true rfl, Nat.le_of_ble_eq_true rfl, Nat.le_of_ble_eq_true rfl, Nat.le_of_ble_eq_true rfl⟩ d_F_count_10 d_F_count_13 d_F_count_14 d_F_count_16 d_F_count_19 rfl
