/-! segments, by program (wip/gen) -/
theorem ct_G_rules_ (G : GG) (σ : St)    : Ct y_G_rules c_G_rules 1 (some .int) rm_G_rules G [.ref (xa σ 1)] (WC G σ) (eqp (some (.int (xi σ 1 0))) (WC G σ)) := by
  refine Ct.of (by decide +kernel) (Nat.le_of_ble_eq_true rfl) (fun K X => ?_)
  show Lb K G _ _ 1 0 [(0, .ref (xa σ 1))] [] _ 0 0
  refine b_aload_n X d_G_rules_0 0 rfl rfl ?_
  refine b_get X fl_G_21 1 rfl (v := .int (xi σ 1 0)) rfl d_G_rules_1 ?_
  exact b_iret X d_G_rules_4 ⟨rfl, rfl⟩
theorem ct_G_isToken_t (G : GG) (σ : St) (x0 : Int32)  (c1 : x0 < 0) : Ct y_G_isToken c_G_isToken 1 (some .boolean) rm_G_isToken G [.int x0] (WC G σ) (eqp (some (.int 0)) (WC G σ)) := by
  refine Ct.of (by decide +kernel) (Nat.le_of_ble_eq_true rfl) (fun K X => ?_)
  show Lb K G _ _ 1 0 [(0, .int x0)] [] _ 0 0
  refine b_iload_n X d_G_isToken_0 0 rfl rfl ?_
  refine b_if_lt X (tgt := 8) d_G_isToken_1 (by decide) (fun _ => ?_) (fun h => absurd c1 h)
  refine b_iconst X (v := 0) d_G_isToken_8 (by decide) ?_
  exact b_zret X rfl d_G_isToken_9 ⟨rfl, rfl⟩
theorem ct_G_isToken_f (G : GG) (σ : St) (x0 : Int32)  (c1 : ¬ x0 < 0) : Ct y_G_isToken c_G_isToken 1 (some .boolean) rm_G_isToken G [.int x0] (WC G σ) (eqp (some (.int 1)) (WC G σ)) := by
  refine Ct.of (by decide +kernel) (Nat.le_of_ble_eq_true rfl) (fun K X => ?_)
  show Lb K G _ _ 1 0 [(0, .int x0)] [] _ 0 0
  refine b_iload_n X d_G_isToken_0 0 rfl rfl ?_
  refine b_if_lt X (tgt := 8) d_G_isToken_1 (by decide) (fun h => absurd h c1) (fun _ => ?_)
  refine b_iconst X (v := 1) d_G_isToken_4 (by decide) ?_
  refine b_goto X (tgt := 9) d_G_isToken_5 (by decide) ?_
  exact b_zret X rfl d_G_isToken_9 ⟨rfl, rfl⟩
theorem ct_G_isToken (G : GG) (σ : St) (x : Int32) : Ct y_G_isToken c_G_isToken 1 (some .boolean) rm_G_isToken G [.int x] (WC G σ) (eqp (some (.int (b2i (0 ≤ x)))) (WC G σ)) := by
  by_cases h : x < 0
  · have e : b2i (decide (0 ≤ x)) = 0 := b2i_0.mpr (decide_eq_false (Int32.not_le.mpr h))
    rw [e]; exact ct_G_isToken_t G σ x h
  · have e : b2i (decide (0 ≤ x)) = 1 := by rw [decide_eq_true (Int32.not_lt.mp h)]; rfl
    rw [e]; exact ct_G_isToken_f G σ x h
theorem ct_G_ruleOf_ (G : GG) (σ : St) (x0 : Int32)   : Ct y_G_ruleOf c_G_ruleOf 1 (some .int) rm_G_ruleOf G [.int x0] (WC G σ) (eqp (some (.int ((-1) - x0))) (WC G σ)) := by
  refine Ct.of (by decide +kernel) (Nat.le_of_ble_eq_true rfl) (fun K X => ?_)
  show Lb K G _ _ 1 0 [(0, .int x0)] [] _ 0 0
  refine b_iconst X (v := (-1)) d_G_ruleOf_0 (by decide) ?_
  refine b_iload_n X d_G_ruleOf_1 0 rfl rfl ?_
  refine b_isub X d_G_ruleOf_2 ?_
  exact b_iret X d_G_ruleOf_3 ⟨rfl, rfl⟩
theorem ct_G_row_ (G : GG) (σ : St) (x0 : Int32) (x1 : Int32)   : Ct y_G_row c_G_row 2 (some .int) rm_G_row G [.int x0, .int x1] (WC G σ) (eqp (some (.int ((x0 * 8) + x1))) (WC G σ)) := by
  refine Ct.of (by decide +kernel) (Nat.le_of_ble_eq_true rfl) (fun K X => ?_)
  show Lb K G _ _ 2 0 [(0, .int x0), (1, .int x1)] [] _ 0 0
  refine b_iload_n X d_G_row_0 0 rfl rfl ?_
  refine b_bipush X (v := 8) d_G_row_1 (by decide) ?_
  refine b_imul X d_G_row_3 ?_
  refine b_iload_n X d_G_row_4 1 rfl rfl ?_
  refine b_iadd X d_G_row_5 ?_
  exact b_iret X d_G_row_6 ⟨rfl, rfl⟩
theorem ct_F_has_t (G : GG) (σ : St) (x0 : Int64) (x2 : Int32)  (c6 : ((ushrL x0 x2) &&& 1) = 0) : Ct y_F_has c_F_has 3 (some .boolean) rm_F_has G [.long x0, .int x2] (WC G σ) (eqp (some (.int 0)) (WC G σ)) := by
  refine Ct.of (by decide +kernel) (Nat.le_of_ble_eq_true rfl) (fun K X => ?_)
  show Lb K G _ _ 3 0 [(0, .long x0), (2, .int x2)] [] _ 0 0
  refine b_lload_n X d_F_has_0 0 rfl rfl ?_
  refine b_iload_n X d_F_has_1 1 rfl rfl ?_
  refine b_lushr X (v := (ushrL x0 x2)) d_F_has_2 rfl ?_
  refine b_lconst X (v := 1) d_F_has_3 rfl ?_
  refine b_land X d_F_has_4 ?_
  refine b_lconst X (v := 0) d_F_has_5 rfl ?_
  refine b_l_eq X (tgt := 14) d_F_has_6 d_F_has_7 (by decide) (fun _ => ?_) (fun h => absurd c6 h)
  refine b_iconst X (v := 0) d_F_has_14 (by decide) ?_
  exact b_zret X rfl d_F_has_15 ⟨rfl, rfl⟩
theorem ct_F_has_f (G : GG) (σ : St) (x0 : Int64) (x2 : Int32)  (c6 : ¬ ((ushrL x0 x2) &&& 1) = 0) : Ct y_F_has c_F_has 3 (some .boolean) rm_F_has G [.long x0, .int x2] (WC G σ) (eqp (some (.int 1)) (WC G σ)) := by
  refine Ct.of (by decide +kernel) (Nat.le_of_ble_eq_true rfl) (fun K X => ?_)
  show Lb K G _ _ 3 0 [(0, .long x0), (2, .int x2)] [] _ 0 0
  refine b_lload_n X d_F_has_0 0 rfl rfl ?_
  refine b_iload_n X d_F_has_1 1 rfl rfl ?_
  refine b_lushr X (v := (ushrL x0 x2)) d_F_has_2 rfl ?_
  refine b_lconst X (v := 1) d_F_has_3 rfl ?_
  refine b_land X d_F_has_4 ?_
  refine b_lconst X (v := 0) d_F_has_5 rfl ?_
  refine b_l_eq X (tgt := 14) d_F_has_6 d_F_has_7 (by decide) (fun h => absurd h c6) (fun _ => ?_)
  refine b_iconst X (v := 1) d_F_has_10 (by decide) ?_
  refine b_goto X (tgt := 15) d_F_has_11 (by decide) ?_
  exact b_zret X rfl d_F_has_15 ⟨rfl, rfl⟩
def hasB (x : Int64) (y : Int32) : Int32 := b2i (¬ ((ushrL x y) &&& 1) = 0)
theorem ct_F_has (G : GG) (σ : St) (x : Int64) (y : Int32) : Ct y_F_has c_F_has 3 (some .boolean) rm_F_has G [.long x, .int y] (WC G σ) (eqp (some (.int (hasB x y))) (WC G σ)) := by
  by_cases h : ((ushrL x y) &&& 1) = 0
  · have e : hasB x y = 0 := b2i_0.mpr (decide_eq_false (fun z => z h))
    rw [e]; exact ct_F_has_t G σ x y h
  · have e : hasB x y = 1 := by unfold hasB; rw [decide_eq_true h]; rfl
    rw [e]; exact ct_F_has_f G σ x y h
theorem ct_C_at_ (G : GG) (σ : St) (x0 : Int32) (x1 : Int32)   : Ct y_C_at c_C_at 2 (some .int) rm_C_at G [.int x0, .int x1] (WC G σ) (eqp (some (.int ((x0 * 61) + x1))) (WC G σ)) := by
  refine Ct.of (by decide +kernel) (Nat.le_of_ble_eq_true rfl) (fun K X => ?_)
  show Lb K G _ _ 2 0 [(0, .int x0), (1, .int x1)] [] _ 0 0
  refine b_iload_n X d_C_at_0 0 rfl rfl ?_
  refine b_bipush X (v := 61) d_C_at_1 (by decide) ?_
  refine b_imul X d_C_at_3 ?_
  refine b_iload_n X d_C_at_4 1 rfl rfl ?_
  refine b_iadd X d_C_at_5 ?_
  exact b_iret X d_C_at_6 ⟨rfl, rfl⟩
theorem ct_Y_at_ (G : GG) (σ : St) (x0 : Int32) (x1 : Int32) (x2 : Int32)   : Ct y_Y_at c_Y_at 3 (some .int) rm_Y_at G [.int x0, .int x1, .int x2] (WC G σ) (eqp (some (.int ((((x0 * 61) + x1) * 61) + x2))) (WC G σ)) := by
  refine Ct.of (by decide +kernel) (Nat.le_of_ble_eq_true rfl) (fun K X => ?_)
  show Lb K G _ _ 3 0 [(0, .int x0), (1, .int x1), (2, .int x2)] [] _ 0 0
  refine b_iload_n X d_Y_at_0 0 rfl rfl ?_
  refine b_bipush X (v := 61) d_Y_at_1 (by decide) ?_
  refine b_imul X d_Y_at_3 ?_
  refine b_iload_n X d_Y_at_4 1 rfl rfl ?_
  refine b_iadd X d_Y_at_5 ?_
  refine b_bipush X (v := 61) d_Y_at_6 (by decide) ?_
  refine b_imul X d_Y_at_8 ?_
  refine b_iload_n X d_Y_at_9 2 rfl rfl ?_
  refine b_iadd X d_Y_at_10 ?_
  exact b_iret X d_Y_at_11 ⟨rfl, rfl⟩
theorem ct_C_end_ (G : GG) (σ : St)    : Ct y_C_end c_C_end 1 (some .int) rm_C_end G [.ref (xa σ 12)] (WC G σ) (eqp (some (.int (xi σ 12 0))) (WC G σ)) := by
  refine Ct.of (by decide +kernel) (Nat.le_of_ble_eq_true rfl) (fun K X => ?_)
  show Lb K G _ _ 1 0 [(0, .ref (xa σ 12))] [] _ 0 0
  refine b_aload_n X d_C_end_0 0 rfl rfl ?_
  refine b_get X fl_C_43 12 rfl (v := .int (xi σ 12 0)) rfl d_C_end_1 ?_
  exact b_iret X d_C_end_4 ⟨rfl, rfl⟩
theorem ct_I_size_ (G : GG) (σ : St)    : Ct y_I_size c_I_size 1 (some .int) rm_I_size G [.ref (xa σ 10)] (WC G σ) (eqp (some (.int (xi σ 10 0))) (WC G σ)) := by
  refine Ct.of (by decide +kernel) (Nat.le_of_ble_eq_true rfl) (fun K X => ?_)
  show Lb K G _ _ 1 0 [(0, .ref (xa σ 10))] [] _ 0 0
  refine b_aload_n X d_I_size_0 0 rfl rfl ?_
  refine b_get X fl_I_15 10 rfl (v := .int (xi σ 10 0)) rfl d_I_size_1 ?_
  exact b_iret X d_I_size_4 ⟨rfl, rfl⟩
theorem ct_S_faultKind_ (G : GG) (σ : St)    : Ct y_S_faultKind c_S_faultKind 1 (some .int) rm_S_faultKind G [.ref (xa σ 5)] (WC G σ) (eqp (some (.int (xi σ 5 1))) (WC G σ)) := by
  refine Ct.of (by decide +kernel) (Nat.le_of_ble_eq_true rfl) (fun K X => ?_)
  show Lb K G _ _ 1 0 [(0, .ref (xa σ 5))] [] _ 0 0
  refine b_aload_n X d_S_faultKind_0 0 rfl rfl ?_
  refine b_get X fl_S_42 5 rfl (v := .int (xi σ 5 1)) rfl d_S_faultKind_1 ?_
  exact b_iret X d_S_faultKind_4 ⟨rfl, rfl⟩
theorem ct_S_faultyRule_ (G : GG) (σ : St)    : Ct y_S_faultyRule c_S_faultyRule 1 (some .int) rm_S_faultyRule G [.ref (xa σ 5)] (WC G σ) (eqp (some (.int (xi σ 5 2))) (WC G σ)) := by
  refine Ct.of (by decide +kernel) (Nat.le_of_ble_eq_true rfl) (fun K X => ?_)
  show Lb K G _ _ 1 0 [(0, .ref (xa σ 5))] [] _ 0 0
  refine b_aload_n X d_S_faultyRule_0 0 rfl rfl ?_
  refine b_get X fl_S_55 5 rfl (v := .int (xi σ 5 2)) rfl d_S_faultyRule_1 ?_
  exact b_iret X d_S_faultyRule_4 ⟨rfl, rfl⟩
theorem ct_G_length_ (G : GG) (σ : St) (x1 : Int32) (n5 : Nat) (e5 : x1 = nI n5) (h5 : n5 < 128) : Ct y_G_length c_G_length 2 (some .int) rm_G_length G [.ref (xa σ 1), .int x1] (WC G σ) (eqp (some (.int (xi σ 3 n5))) (WC G σ)) := by
  refine Ct.of (by decide +kernel) (Nat.le_of_ble_eq_true rfl) (fun K X => ?_)
  show Lb K G _ _ 2 0 [(0, .ref (xa σ 1)), (1, .int x1)] [] _ 0 0
  refine b_aload_n X d_G_length_0 0 rfl rfl ?_
  refine b_get X fl_G_15 1 rfl (v := .ref (xa σ 3)) rfl d_G_length_1 ?_
  refine b_iload_n X d_G_length_4 1 rfl rfl ?_
  refine b_iald X 3 rfl (by decide) n5 e5 h5 d_G_length_5 ?_
  exact b_iret X d_G_length_6 ⟨rfl, rfl⟩
theorem ct_G_symbolAt_ (G : GG) (σ : St) (x1 : Int32) (x2 : Int32) (n10 : Nat) (e10 : ((x1 * 8) + x2) = nI n10) (h10 : n10 < 1024) : Ct y_G_symbolAt c_G_symbolAt 3 (some .int) rm_G_symbolAt G [.ref (xa σ 1), .int x1, .int x2] (WC G σ) (eqp (some (.int (xi σ 4 n10))) (WC G σ)) := by
  refine Ct.of (by decide +kernel) (Nat.le_of_ble_eq_true rfl) (fun K X => ?_)
  show Lb K G _ _ 3 0 [(0, .ref (xa σ 1)), (1, .int x1), (2, .int x2)] [] _ 0 0
  refine b_aload_n X d_G_symbolAt_0 0 rfl rfl ?_
  refine b_get X fl_G_18 1 rfl (v := .ref (xa σ 4)) rfl d_G_symbolAt_1 ?_
  refine b_iload_n X d_G_symbolAt_4 1 rfl rfl ?_
  refine b_bipush X (v := 8) d_G_symbolAt_5 (by decide) ?_
  refine b_imul X d_G_symbolAt_7 ?_
  refine b_iload_n X d_G_symbolAt_8 2 rfl rfl ?_
  refine b_iadd X d_G_symbolAt_9 ?_
  refine b_iald X 4 rfl (by decide) n10 e10 h10 d_G_symbolAt_10 ?_
  exact b_iret X d_G_symbolAt_11 ⟨rfl, rfl⟩
theorem ct_I_tokenAt_ (G : GG) (σ : St) (x1 : Int32) (n5 : Nat) (e5 : x1 = nI n5) (h5 : n5 < 60) : Ct y_I_tokenAt c_I_tokenAt 2 (some .int) rm_I_tokenAt G [.ref (xa σ 10), .int x1] (WC G σ) (eqp (some (.int (xi σ 11 n5))) (WC G σ)) := by
  refine Ct.of (by decide +kernel) (Nat.le_of_ble_eq_true rfl) (fun K X => ?_)
  show Lb K G _ _ 2 0 [(0, .ref (xa σ 10)), (1, .int x1)] [] _ 0 0
  refine b_aload_n X d_I_tokenAt_0 0 rfl rfl ?_
  refine b_get X fl_I_9 10 rfl (v := .ref (xa σ 11)) rfl d_I_tokenAt_1 ?_
  refine b_iload_n X d_I_tokenAt_4 1 rfl rfl ?_
  refine b_iald X 11 rfl (by decide) n5 e5 h5 d_I_tokenAt_5 ?_
  exact b_iret X d_I_tokenAt_6 ⟨rfl, rfl⟩
theorem ct_S_inOrder_ (G : GG) (σ : St) (x1 : Int32) (n5 : Nat) (e5 : x1 = nI n5) (h5 : n5 < 16) : Ct y_S_inOrder c_S_inOrder 2 (some .int) rm_S_inOrder G [.ref (xa σ 5), .int x1] (WC G σ) (eqp (some (.int (xi σ 7 n5))) (WC G σ)) := by
  refine Ct.of (by decide +kernel) (Nat.le_of_ble_eq_true rfl) (fun K X => ?_)
  show Lb K G _ _ 2 0 [(0, .ref (xa σ 5)), (1, .int x1)] [] _ 0 0
  refine b_aload_n X d_S_inOrder_0 0 rfl rfl ?_
  refine b_get X fl_S_15 5 rfl (v := .ref (xa σ 7)) rfl d_S_inOrder_1 ?_
  refine b_iload_n X d_S_inOrder_4 1 rfl rfl ?_
  refine b_iald X 7 rfl (by decide) n5 e5 h5 d_S_inOrder_5 ?_
  exact b_iret X d_S_inOrder_6 ⟨rfl, rfl⟩
theorem ct_C_rowFits_ (G : GG) (σ : St) (x1 : Int32) (n5 : Nat) (e5 : x1 = nI n5) (h5 : n5 < 7808) : Ct y_C_rowFits c_C_rowFits 2 (some .long) rm_C_rowFits G [.ref (xa σ 12), .int x1] (WC G σ) (eqp (some (.long (xl σ 14 n5))) (WC G σ)) := by
  refine Ct.of (by decide +kernel) (Nat.le_of_ble_eq_true rfl) (fun K X => ?_)
  show Lb K G _ _ 2 0 [(0, .ref (xa σ 12)), (1, .int x1)] [] _ 0 0
  refine b_aload_n X d_C_rowFits_0 0 rfl rfl ?_
  refine b_get X fl_C_15 12 rfl (v := .ref (xa σ 14)) rfl d_C_rowFits_1 ?_
  refine b_iload_n X d_C_rowFits_4 1 rfl rfl ?_
  refine b_lald X 14 rfl (by decide) n5 e5 h5 d_C_rowFits_5 ?_
  exact b_lret X d_C_rowFits_6 ⟨rfl, rfl⟩
theorem ct_C_rowFar_ (G : GG) (σ : St) (x1 : Int32) (n5 : Nat) (e5 : x1 = nI n5) (h5 : n5 < 7808) : Ct y_C_rowFar c_C_rowFar 2 (some .int) rm_C_rowFar G [.ref (xa σ 12), .int x1] (WC G σ) (eqp (some (.int (xi σ 15 n5))) (WC G σ)) := by
  refine Ct.of (by decide +kernel) (Nat.le_of_ble_eq_true rfl) (fun K X => ?_)
  show Lb K G _ _ 2 0 [(0, .ref (xa σ 12)), (1, .int x1)] [] _ 0 0
  refine b_aload_n X d_C_rowFar_0 0 rfl rfl ?_
  refine b_get X fl_C_18 12 rfl (v := .ref (xa σ 15)) rfl d_C_rowFar_1 ?_
  refine b_iload_n X d_C_rowFar_4 1 rfl rfl ?_
  refine b_iald X 15 rfl (by decide) n5 e5 h5 d_C_rowFar_5 ?_
  exact b_iret X d_C_rowFar_6 ⟨rfl, rfl⟩
theorem ct_C_ruleFits_ (G : GG) (σ : St) (x1 : Int32) (n5 : Nat) (e5 : x1 = nI n5) (h5 : n5 < 976) : Ct y_C_ruleFits c_C_ruleFits 2 (some .long) rm_C_ruleFits G [.ref (xa σ 12), .int x1] (WC G σ) (eqp (some (.long (xl σ 16 n5))) (WC G σ)) := by
  refine Ct.of (by decide +kernel) (Nat.le_of_ble_eq_true rfl) (fun K X => ?_)
  show Lb K G _ _ 2 0 [(0, .ref (xa σ 12)), (1, .int x1)] [] _ 0 0
  refine b_aload_n X d_C_ruleFits_0 0 rfl rfl ?_
  refine b_get X fl_C_22 12 rfl (v := .ref (xa σ 16)) rfl d_C_ruleFits_1 ?_
  refine b_iload_n X d_C_ruleFits_4 1 rfl rfl ?_
  refine b_lald X 16 rfl (by decide) n5 e5 h5 d_C_ruleFits_5 ?_
  exact b_lret X d_C_ruleFits_6 ⟨rfl, rfl⟩
theorem ct_C_ruleFar_ (G : GG) (σ : St) (x1 : Int32) (n5 : Nat) (e5 : x1 = nI n5) (h5 : n5 < 976) : Ct y_C_ruleFar c_C_ruleFar 2 (some .int) rm_C_ruleFar G [.ref (xa σ 12), .int x1] (WC G σ) (eqp (some (.int (xi σ 17 n5))) (WC G σ)) := by
  refine Ct.of (by decide +kernel) (Nat.le_of_ble_eq_true rfl) (fun K X => ?_)
  show Lb K G _ _ 2 0 [(0, .ref (xa σ 12)), (1, .int x1)] [] _ 0 0
  refine b_aload_n X d_C_ruleFar_0 0 rfl rfl ?_
  refine b_get X fl_C_25 12 rfl (v := .ref (xa σ 17)) rfl d_C_ruleFar_1 ?_
  refine b_iload_n X d_C_ruleFar_4 1 rfl rfl ?_
  refine b_iald X 17 rfl (by decide) n5 e5 h5 d_C_ruleFar_5 ?_
  exact b_iret X d_C_ruleFar_6 ⟨rfl, rfl⟩
theorem ct_G_alternatives_t (G : GG) (σ : St) (x1 : Int32)  (c5 : (xi σ 1 0) ≤ x1) : Ct y_G_alternatives c_G_alternatives 2 (some .int) rm_G_alternatives G [.ref (xa σ 1), .int x1] (WC G σ) (eqp (some (.int 0)) (WC G σ)) := by
  refine Ct.of (by decide +kernel) (Nat.le_of_ble_eq_true rfl) (fun K X => ?_)
  show Lb K G _ _ 2 0 [(0, .ref (xa σ 1)), (1, .int x1)] [] _ 0 0
  refine b_iload_n X d_G_alternatives_0 1 rfl rfl ?_
  refine b_aload_n X d_G_alternatives_1 0 rfl rfl ?_
  refine b_get X fl_G_21 1 rfl (v := .int (xi σ 1 0)) rfl d_G_alternatives_2 ?_
  refine b_icmp_ge X (tgt := 17) d_G_alternatives_5 (by decide) (fun _ => ?_) (fun h => absurd c5 h)
  refine b_iconst X (v := 0) d_G_alternatives_17 (by decide) ?_
  exact b_iret X d_G_alternatives_18 ⟨rfl, rfl⟩
theorem ct_G_alternatives_f (G : GG) (σ : St) (x1 : Int32) (n13 : Nat) (c5 : ¬ (xi σ 1 0) ≤ x1) (e13 : x1 = nI n13) (h13 : n13 < 16) : Ct y_G_alternatives c_G_alternatives 2 (some .int) rm_G_alternatives G [.ref (xa σ 1), .int x1] (WC G σ) (eqp (some (.int (xi σ 2 n13))) (WC G σ)) := by
  refine Ct.of (by decide +kernel) (Nat.le_of_ble_eq_true rfl) (fun K X => ?_)
  show Lb K G _ _ 2 0 [(0, .ref (xa σ 1)), (1, .int x1)] [] _ 0 0
  refine b_iload_n X d_G_alternatives_0 1 rfl rfl ?_
  refine b_aload_n X d_G_alternatives_1 0 rfl rfl ?_
  refine b_get X fl_G_21 1 rfl (v := .int (xi σ 1 0)) rfl d_G_alternatives_2 ?_
  refine b_icmp_ge X (tgt := 17) d_G_alternatives_5 (by decide) (fun h => absurd h c5) (fun _ => ?_)
  refine b_aload_n X d_G_alternatives_8 0 rfl rfl ?_
  refine b_get X fl_G_9 1 rfl (v := .ref (xa σ 2)) rfl d_G_alternatives_9 ?_
  refine b_iload_n X d_G_alternatives_12 1 rfl rfl ?_
  refine b_iald X 2 rfl (by decide) n13 e13 h13 d_G_alternatives_13 ?_
  refine b_goto X (tgt := 18) d_G_alternatives_14 (by decide) ?_
  exact b_iret X d_G_alternatives_18 ⟨rfl, rfl⟩
def altC (σ : St) (r : Nat) : Int32 := if xi σ 1 0 ≤ nI r then 0 else xi σ 2 r
theorem ct_G_alternatives (G : GG) (σ : St) (x : Int32) (r : Nat) (e : x = nI r) (h : r < 16) : Ct y_G_alternatives c_G_alternatives 2 (some .int) rm_G_alternatives G [.ref (xa σ 1), .int x] (WC G σ) (eqp (some (.int (altC σ r))) (WC G σ)) := by
  subst e
  unfold altC
  by_cases c : xi σ 1 0 ≤ nI r
  · rw [if_pos c]; exact ct_G_alternatives_t G σ _ c
  · rw [if_neg c]; exact ct_G_alternatives_f G σ _ r c rfl h
theorem ct_G_latestRow_ (G : GG) (σ : St) (x1 : Int32) (n6 : Nat) (e6 : x1 = nI n6) (h6 : n6 < 16) : Ct y_G_latestRow c_G_latestRow 2 (some .int) rm_G_latestRow G [.ref (xa σ 1), .int x1] (WC G σ) (eqp (some (.int ((x1 * 8) + ((xi σ 2 n6) - 1)))) (WC G σ)) := by
  refine Ct.of (by decide +kernel) (Nat.le_of_ble_eq_true rfl) (fun K X => ?_)
  show Lb K G _ _ 2 0 [(0, .ref (xa σ 1)), (1, .int x1)] [] _ 0 0
  refine b_iload_n X d_G_latestRow_0 1 rfl rfl ?_
  refine b_aload_n X d_G_latestRow_1 0 rfl rfl ?_
  refine b_get X fl_G_9 1 rfl (v := .ref (xa σ 2)) rfl d_G_latestRow_2 ?_
  refine b_iload_n X d_G_latestRow_5 1 rfl rfl ?_
  refine b_iald X 2 rfl (by decide) n6 e6 h6 d_G_latestRow_6 ?_
  refine b_iconst X (v := 1) d_G_latestRow_7 (by decide) ?_
  refine b_isub X d_G_latestRow_8 ?_
  refine b_dS X cf_G_row ci_G_row ml_G_29 (ct_G_row_ G σ x1 ((xi σ 2 n6) - 1)) (As := [.int x1, .int ((xi σ 2 n6) - 1)]) (rest := []) rfl (Nat.le_of_ble_eq_true rfl) ⟨Nat.le_of_ble_eq_true rfl, Nat.le_of_ble_eq_true rfl⟩ ⟨Nat.le_of_ble_eq_true rfl, Nat.le_of_ble_eq_true rfl⟩ rfl rfl d_G_latestRow_9 ?_
  exact b_iret X d_G_latestRow_12 ⟨rfl, rfl⟩
theorem ct_G_addRule_ (G : GG) (σ : St)  (n9 : Nat) (e9 : (xi σ 1 0) = nI n9) (h9 : n9 < 16) : Ct y_G_addRule c_G_addRule 1 (some .int) rm_G_addRule G [.ref (xa σ 1)] (WC G σ) (eqp (some (.int (((xi σ 1 0) + 1) - 1))) (WC G (wi (wi σ 2 n9 0) 1 0 ((xi σ 1 0) + 1)))) := by
  refine Ct.of (by decide +kernel) (Nat.le_of_ble_eq_true rfl) (fun K X => ?_)
  show Lb K G _ _ 1 0 [(0, .ref (xa σ 1))] [] _ 0 0
  refine b_aload_n X d_G_addRule_0 0 rfl rfl ?_
  refine b_get X fl_G_9 1 rfl (v := .ref (xa σ 2)) rfl d_G_addRule_1 ?_
  refine b_aload_n X d_G_addRule_4 0 rfl rfl ?_
  refine b_get X fl_G_21 1 rfl (v := .int (xi σ 1 0)) rfl d_G_addRule_5 ?_
  refine b_iconst X (v := 0) d_G_addRule_8 (by decide) ?_
  refine b_iast X 2 rfl (by decide) n9 e9 h9 (uWC_2 G σ n9 0) d_G_addRule_9 ?_
  refine b_aload_n X d_G_addRule_10 0 rfl rfl ?_
  refine b_dup X d_G_addRule_11 rfl ?_
  refine b_get X fl_G_21 1 rfl (v := .int (xi σ 1 0)) rfl d_G_addRule_12 ?_
  refine b_iconst X (v := 1) d_G_addRule_15 (by decide) ?_
  refine b_iadd X d_G_addRule_16 ?_
  refine b_put X fl_G_21 pl_G_rules 1 rfl rfl rfl (Nat.le_of_ble_eq_true rfl) (uWC_1_rules G (wi σ 2 n9 0) ((xi σ 1 0) + 1)) d_G_addRule_17 ?_
  refine b_aload_n X d_G_addRule_20 0 rfl rfl ?_
  refine b_get X fl_G_21 1 rfl (v := .int ((xi σ 1 0) + 1)) rfl d_G_addRule_21 ?_
  refine b_iconst X (v := 1) d_G_addRule_24 (by decide) ?_
  refine b_isub X d_G_addRule_25 ?_
  exact b_iret X d_G_addRule_26 ⟨rfl, rfl⟩
theorem ct_G_addAlternative_ (G : GG) (σ : St) (x1 : Int32) (n6 : Nat) (r16 : Int32) (n20 : Nat) (e6 : x1 = nI n6) (h6 : n6 < 16) (t16 : Ct y_G_latestRow c_G_latestRow 2 (some .int) rm_G_latestRow G [.ref (xa σ 1), .int x1] (WC G (wi σ 2 n6 ((xi σ 2 n6) + 1))) (eqp (some (.int r16)) (WC G (wi σ 2 n6 ((xi σ 2 n6) + 1))))) (e20 : r16 = nI n20) (h20 : n20 < 128) : Ct y_G_addAlternative c_G_addAlternative 2 (some .int) rm_G_addAlternative G [.ref (xa σ 1), .int x1] (WC G σ) (eqp (some (.int ((xi (wi σ 2 n6 ((xi σ 2 n6) + 1)) 2 n6) - 1))) (WC G (wi (wi σ 2 n6 ((xi σ 2 n6) + 1)) 3 n20 0))) := by
  refine Ct.of (by decide +kernel) (Nat.le_of_ble_eq_true rfl) (fun K X => ?_)
  show Lb K G _ _ 2 0 [(0, .ref (xa σ 1)), (1, .int x1)] [] _ 0 0
  refine b_aload_n X d_G_addAlternative_0 0 rfl rfl ?_
  refine b_get X fl_G_9 1 rfl (v := .ref (xa σ 2)) rfl d_G_addAlternative_1 ?_
  refine b_iload_n X d_G_addAlternative_4 1 rfl rfl ?_
  refine b_dup2 X d_G_addAlternative_5 rfl rfl ?_
  refine b_iald X 2 rfl (by decide) n6 e6 h6 d_G_addAlternative_6 ?_
  refine b_iconst X (v := 1) d_G_addAlternative_7 (by decide) ?_
  refine b_iadd X d_G_addAlternative_8 ?_
  refine b_iast X 2 rfl (by decide) n6 e6 h6 (uWC_2 G σ n6 ((xi σ 2 n6) + 1)) d_G_addAlternative_9 ?_
  refine b_aload_n X d_G_addAlternative_10 0 rfl rfl ?_
  refine b_get X fl_G_15 1 rfl (v := .ref (xa σ 3)) rfl d_G_addAlternative_11 ?_
  refine b_aload_n X d_G_addAlternative_14 0 rfl rfl ?_
  refine b_iload_n X d_G_addAlternative_15 1 rfl rfl ?_
  refine b_dV X cf_G_latestRow ci_G_latestRow ml_G_25 t16 1 rfl rfl (As := [.int x1]) (rest := [.ref (xa σ 3)]) rfl (Nat.le_of_ble_eq_true rfl) ⟨Nat.le_of_ble_eq_true rfl, Nat.le_of_ble_eq_true rfl⟩ ⟨Nat.le_of_ble_eq_true rfl, Nat.le_of_ble_eq_true rfl⟩ rfl rfl d_G_addAlternative_16 ?_
  refine b_iconst X (v := 0) d_G_addAlternative_19 (by decide) ?_
  refine b_iast X 3 rfl (by decide) n20 e20 h20 (uWC_3 G (wi σ 2 n6 ((xi σ 2 n6) + 1)) n20 0) d_G_addAlternative_20 ?_
  refine b_aload_n X d_G_addAlternative_21 0 rfl rfl ?_
  refine b_get X fl_G_9 1 rfl (v := .ref (xa σ 2)) rfl d_G_addAlternative_22 ?_
  refine b_iload_n X d_G_addAlternative_25 1 rfl rfl ?_
  refine b_iald X 2 rfl (by decide) n6 e6 h6 d_G_addAlternative_26 ?_
  refine b_iconst X (v := 1) d_G_addAlternative_27 (by decide) ?_
  refine b_isub X d_G_addAlternative_28 ?_
  exact b_iret X d_G_addAlternative_29 ⟨rfl, rfl⟩
theorem ct_G_addSymbol_ (G : GG) (σ : St) (x1 : Int32) (x2 : Int32) (r2 : Int32) (n19 : Nat) (n22 : Nat) (t2 : Ct y_G_latestRow c_G_latestRow 2 (some .int) rm_G_latestRow G [.ref (xa σ 1), .int x1] (WC G σ) (eqp (some (.int r2)) (WC G σ))) (e19 : r2 = nI n19) (h19 : n19 < 128) (e22 : ((r2 * 8) + (xi σ 3 n19)) = nI n22) (h22 : n22 < 1024) : Ct y_G_addSymbol c_G_addSymbol 4 (some .int) rm_G_addSymbol G [.ref (xa σ 1), .int x1, .int x2] (WC G σ) (eqp (some (.int (xi (wi (wi σ 4 n22 x2) 3 n19 ((xi σ 3 n19) + 1)) 3 n19))) (WC G (wi (wi σ 4 n22 x2) 3 n19 ((xi σ 3 n19) + 1)))) := by
  refine Ct.of (by decide +kernel) (Nat.le_of_ble_eq_true rfl) (fun K X => ?_)
  show Lb K G _ _ 4 0 [(0, .ref (xa σ 1)), (1, .int x1), (2, .int x2)] [] _ 0 0
  refine b_aload_n X d_G_addSymbol_0 0 rfl rfl ?_
  refine b_iload_n X d_G_addSymbol_1 1 rfl rfl ?_
  refine b_dV X cf_G_latestRow ci_G_latestRow ml_G_25 t2 1 rfl rfl (As := [.int x1]) (rest := []) rfl (Nat.le_of_ble_eq_true rfl) ⟨Nat.le_of_ble_eq_true rfl, Nat.le_of_ble_eq_true rfl⟩ ⟨Nat.le_of_ble_eq_true rfl, Nat.le_of_ble_eq_true rfl⟩ rfl rfl d_G_addSymbol_2 ?_
  refine b_istore_n X (lv' := [(0, .ref (xa σ 1)), (1, .int x1), (2, .int x2), (3, .int r2)]) d_G_addSymbol_5 rfl (by decide) [1, 2, 3, 0] rfl ?_
  refine b_aload_n X d_G_addSymbol_6 0 rfl rfl ?_
  refine b_get X fl_G_18 1 rfl (v := .ref (xa σ 4)) rfl d_G_addSymbol_7 ?_
  refine b_iload_n X d_G_addSymbol_10 3 rfl rfl ?_
  refine b_bipush X (v := 8) d_G_addSymbol_11 (by decide) ?_
  refine b_imul X d_G_addSymbol_13 ?_
  refine b_aload_n X d_G_addSymbol_14 0 rfl rfl ?_
  refine b_get X fl_G_15 1 rfl (v := .ref (xa σ 3)) rfl d_G_addSymbol_15 ?_
  refine b_iload_n X d_G_addSymbol_18 3 rfl rfl ?_
  refine b_iald X 3 rfl (by decide) n19 e19 h19 d_G_addSymbol_19 ?_
  refine b_iadd X d_G_addSymbol_20 ?_
  refine b_iload_n X d_G_addSymbol_21 2 rfl rfl ?_
  refine b_iast X 4 rfl (by decide) n22 e22 h22 (uWC_4 G σ n22 x2) d_G_addSymbol_22 ?_
  refine b_aload_n X d_G_addSymbol_23 0 rfl rfl ?_
  refine b_get X fl_G_15 1 rfl (v := .ref (xa σ 3)) rfl d_G_addSymbol_24 ?_
  refine b_iload_n X d_G_addSymbol_27 3 rfl rfl ?_
  refine b_dup2 X d_G_addSymbol_28 rfl rfl ?_
  refine b_iald X 3 rfl (by decide) n19 e19 h19 d_G_addSymbol_29 ?_
  refine b_iconst X (v := 1) d_G_addSymbol_30 (by decide) ?_
  refine b_iadd X d_G_addSymbol_31 ?_
  refine b_iast X 3 rfl (by decide) n19 e19 h19 (uWC_3 G (wi σ 4 n22 x2) n19 ((xi σ 3 n19) + 1)) d_G_addSymbol_32 ?_
  refine b_aload_n X d_G_addSymbol_33 0 rfl rfl ?_
  refine b_get X fl_G_15 1 rfl (v := .ref (xa σ 3)) rfl d_G_addSymbol_34 ?_
  refine b_iload_n X d_G_addSymbol_37 3 rfl rfl ?_
  refine b_iald X 3 rfl (by decide) n19 e19 h19 d_G_addSymbol_38 ?_
  exact b_iret X d_G_addSymbol_39 ⟨rfl, rfl⟩
theorem ct_G_loseRules_ (G : GG) (σ : St)    : Ct y_G_loseRules c_G_loseRules 2 (some .int) rm_G_loseRules G [.ref (xa σ 1)] (WC G σ) (eqp (some (.int (xi σ 1 0))) (WC G (wi σ 1 0 0))) := by
  refine Ct.of (by decide +kernel) (Nat.le_of_ble_eq_true rfl) (fun K X => ?_)
  show Lb K G _ _ 2 0 [(0, .ref (xa σ 1))] [] _ 0 0
  refine b_aload_n X d_G_loseRules_0 0 rfl rfl ?_
  refine b_get X fl_G_21 1 rfl (v := .int (xi σ 1 0)) rfl d_G_loseRules_1 ?_
  refine b_istore_n X (lv' := [(0, .ref (xa σ 1)), (1, .int (xi σ 1 0))]) d_G_loseRules_4 rfl (by decide) [1, 0] rfl ?_
  refine b_aload_n X d_G_loseRules_5 0 rfl rfl ?_
  refine b_iconst X (v := 0) d_G_loseRules_6 (by decide) ?_
  refine b_put X fl_G_21 pl_G_rules 1 rfl rfl rfl (Nat.le_of_ble_eq_true rfl) (uWC_1_rules G σ 0) d_G_loseRules_7 ?_
  refine b_iload_n X d_G_loseRules_10 1 rfl rfl ?_
  exact b_iret X d_G_loseRules_11 ⟨rfl, rfl⟩
theorem ct_I_add_ (G : GG) (σ : St) (x1 : Int32) (n9 : Nat) (e9 : (xi σ 10 0) = nI n9) (h9 : n9 < 60) : Ct y_I_add c_I_add 2 (some .int) rm_I_add G [.ref (xa σ 10), .int x1] (WC G σ) (eqp (some (.int ((xi σ 10 0) + 1))) (WC G (wi (wi σ 11 n9 x1) 10 0 ((xi σ 10 0) + 1)))) := by
  refine Ct.of (by decide +kernel) (Nat.le_of_ble_eq_true rfl) (fun K X => ?_)
  show Lb K G _ _ 2 0 [(0, .ref (xa σ 10)), (1, .int x1)] [] _ 0 0
  refine b_aload_n X d_I_add_0 0 rfl rfl ?_
  refine b_get X fl_I_9 10 rfl (v := .ref (xa σ 11)) rfl d_I_add_1 ?_
  refine b_aload_n X d_I_add_4 0 rfl rfl ?_
  refine b_get X fl_I_15 10 rfl (v := .int (xi σ 10 0)) rfl d_I_add_5 ?_
  refine b_iload_n X d_I_add_8 1 rfl rfl ?_
  refine b_iast X 11 rfl (by decide) n9 e9 h9 (uWC_11 G σ n9 x1) d_I_add_9 ?_
  refine b_aload_n X d_I_add_10 0 rfl rfl ?_
  refine b_dup X d_I_add_11 rfl ?_
  refine b_get X fl_I_15 10 rfl (v := .int (xi σ 10 0)) rfl d_I_add_12 ?_
  refine b_iconst X (v := 1) d_I_add_15 (by decide) ?_
  refine b_iadd X d_I_add_16 ?_
  refine b_put X fl_I_15 pl_I_size 10 rfl rfl rfl (Nat.le_of_ble_eq_true rfl) (uWC_10_size G (wi σ 11 n9 x1) ((xi σ 10 0) + 1)) d_I_add_17 ?_
  refine b_aload_n X d_I_add_20 0 rfl rfl ?_
  refine b_get X fl_I_15 10 rfl (v := .int ((xi σ 10 0) + 1)) rfl d_I_add_21 ?_
  exact b_iret X d_I_add_24 ⟨rfl, rfl⟩
theorem ct_I_cut_ (G : GG) (σ : St) (x1 : Int32)   : Ct y_I_cut c_I_cut 2 none rm_I_cut G [.ref (xa σ 10), .int x1] (WC G σ) (eqp none (WC G (wi σ 10 0 x1))) := by
  refine Ct.of (by decide +kernel) (Nat.le_of_ble_eq_true rfl) (fun K X => ?_)
  show Lb K G _ _ 2 0 [(0, .ref (xa σ 10)), (1, .int x1)] [] _ 0 0
  refine b_aload_n X d_I_cut_0 0 rfl rfl ?_
  refine b_iload_n X d_I_cut_1 1 rfl rfl ?_
  refine b_put X fl_I_15 pl_I_size 10 rfl rfl rfl (Nat.le_of_ble_eq_true rfl) (uWC_10_size G σ x1) d_I_cut_2 ?_
  exact b_vret X d_I_cut_5 ⟨rfl, rfl⟩
theorem ct24_T_size_ (G : GG) (σ : St)    : Ct y_T_size c_T_size 1 (some .int) rm_T_size G [.ref (xa σ 24)] (WC G σ) (eqp (some (.int (xi σ 24 0))) (WC G σ)) := by
  refine Ct.of (by decide +kernel) (Nat.le_of_ble_eq_true rfl) (fun K X => ?_)
  show Lb K G _ _ 1 0 [(0, .ref (xa σ 24))] [] _ 0 0
  refine b_aload_n X d_T_size_0 0 rfl rfl ?_
  refine b_get X fl_T_15 24 rfl (v := .int (xi σ 24 0)) rfl d_T_size_1 ?_
  exact b_iret X d_T_size_4 ⟨rfl, rfl⟩
theorem ct24_T_fact_ (G : GG) (σ : St) (x1 : Int32) (x2 : Int32) (n10 : Nat) (e10 : ((x1 * 7) + x2) = nI n10) (h10 : n10 < 14000) : Ct y_T_fact c_T_fact 3 (some .int) rm_T_fact G [.ref (xa σ 24), .int x1, .int x2] (WC G σ) (eqp (some (.int (xi σ 25 n10))) (WC G σ)) := by
  refine Ct.of (by decide +kernel) (Nat.le_of_ble_eq_true rfl) (fun K X => ?_)
  show Lb K G _ _ 3 0 [(0, .ref (xa σ 24)), (1, .int x1), (2, .int x2)] [] _ 0 0
  refine b_aload_n X d_T_fact_0 0 rfl rfl ?_
  refine b_get X fl_T_11 24 rfl (v := .ref (xa σ 25)) rfl d_T_fact_1 ?_
  refine b_iload_n X d_T_fact_4 1 rfl rfl ?_
  refine b_bipush X (v := 7) d_T_fact_5 (by decide) ?_
  refine b_imul X d_T_fact_7 ?_
  refine b_iload_n X d_T_fact_8 2 rfl rfl ?_
  refine b_iadd X d_T_fact_9 ?_
  refine b_iald X 25 rfl (by decide) n10 e10 h10 d_T_fact_10 ?_
  exact b_iret X d_T_fact_11 ⟨rfl, rfl⟩
theorem ct24_T_empty_ (G : GG) (σ : St)    : Ct y_T_empty c_T_empty 1 none rm_T_empty G [.ref (xa σ 24)] (WC G σ) (eqp none (WC G (wi σ 24 0 0))) := by
  refine Ct.of (by decide +kernel) (Nat.le_of_ble_eq_true rfl) (fun K X => ?_)
  show Lb K G _ _ 1 0 [(0, .ref (xa σ 24))] [] _ 0 0
  refine b_aload_n X d_T_empty_0 0 rfl rfl ?_
  refine b_iconst X (v := 0) d_T_empty_1 (by decide) ?_
  refine b_put X fl_T_15 pl_T_size 24 rfl rfl rfl (Nat.le_of_ble_eq_true rfl) (uWC_24_size G σ 0) d_T_empty_2 ?_
  exact b_vret X d_T_empty_5 ⟨rfl, rfl⟩
theorem ct26_T_empty_ (G : GG) (σ : St)    : Ct y_T_empty c_T_empty 1 none rm_T_empty G [.ref (xa σ 26)] (WC G σ) (eqp none (WC G (wi σ 26 0 0))) := by
  refine Ct.of (by decide +kernel) (Nat.le_of_ble_eq_true rfl) (fun K X => ?_)
  show Lb K G _ _ 1 0 [(0, .ref (xa σ 26))] [] _ 0 0
  refine b_aload_n X d_T_empty_0 0 rfl rfl ?_
  refine b_iconst X (v := 0) d_T_empty_1 (by decide) ?_
  refine b_put X fl_T_15 pl_T_size 26 rfl rfl rfl (Nat.le_of_ble_eq_true rfl) (uWC_26_size G σ 0) d_T_empty_2 ?_
  exact b_vret X d_T_empty_5 ⟨rfl, rfl⟩
theorem ct26_T_add_ (G : GG) (σ : St) (x1 : Int32) (x2 : Int32) (x3 : Int32) (n18 : Nat) (n28 : Nat) (n38 : Nat) (e18 : (((xi σ 26 0) * 7) + 4) = nI n18) (h18 : n18 < 14000) (e28 : (((xi σ 26 0) * 7) + 5) = nI n28) (h28 : n28 < 14000) (e38 : (((xi σ 26 0) * 7) + 3) = nI n38) (h38 : n38 < 14000) : Ct y_T_add c_T_add 5 (some .int) rm_T_add G [.ref (xa σ 26), .int x1, .int x2, .int x3] (WC G σ) (eqp (some (.int (((xi σ 26 0) + 1) - 1))) (WC G (wi (wi (wi (wi σ 27 n18 x1) 27 n28 x2) 27 n38 x3) 26 0 ((xi σ 26 0) + 1)))) := by
  refine Ct.of (by decide +kernel) (Nat.le_of_ble_eq_true rfl) (fun K X => ?_)
  show Lb K G _ _ 5 0 [(0, .ref (xa σ 26)), (1, .int x1), (2, .int x2), (3, .int x3)] [] _ 0 0
  refine b_aload_n X d_T_add_0 0 rfl rfl ?_
  refine b_get X fl_T_15 26 rfl (v := .int (xi σ 26 0)) rfl d_T_add_1 ?_
  refine b_bipush X (v := 7) d_T_add_4 (by decide) ?_
  refine b_imul X d_T_add_6 ?_
  refine b_istore X (lv' := [(0, .ref (xa σ 26)), (1, .int x1), (2, .int x2), (3, .int x3), (4, .int ((xi σ 26 0) * 7))]) d_T_add_7 (by decide) [1, 2, 3, 4, 0] rfl ?_
  refine b_aload_n X d_T_add_9 0 rfl rfl ?_
  refine b_get X fl_T_11 26 rfl (v := .ref (xa σ 27)) rfl d_T_add_10 ?_
  refine b_iload X d_T_add_13 4 rfl ?_
  refine b_iconst X (v := 4) d_T_add_15 (by decide) ?_
  refine b_iadd X d_T_add_16 ?_
  refine b_iload_n X d_T_add_17 1 rfl rfl ?_
  refine b_iast X 27 rfl (by decide) n18 e18 h18 (uWC_27 G σ n18 x1) d_T_add_18 ?_
  refine b_aload_n X d_T_add_19 0 rfl rfl ?_
  refine b_get X fl_T_11 26 rfl (v := .ref (xa σ 27)) rfl d_T_add_20 ?_
  refine b_iload X d_T_add_23 4 rfl ?_
  refine b_iconst X (v := 5) d_T_add_25 (by decide) ?_
  refine b_iadd X d_T_add_26 ?_
  refine b_iload_n X d_T_add_27 2 rfl rfl ?_
  refine b_iast X 27 rfl (by decide) n28 e28 h28 (uWC_27 G (wi σ 27 n18 x1) n28 x2) d_T_add_28 ?_
  refine b_aload_n X d_T_add_29 0 rfl rfl ?_
  refine b_get X fl_T_11 26 rfl (v := .ref (xa σ 27)) rfl d_T_add_30 ?_
  refine b_iload X d_T_add_33 4 rfl ?_
  refine b_iconst X (v := 3) d_T_add_35 (by decide) ?_
  refine b_iadd X d_T_add_36 ?_
  refine b_iload_n X d_T_add_37 3 rfl rfl ?_
  refine b_iast X 27 rfl (by decide) n38 e38 h38 (uWC_27 G (wi (wi σ 27 n18 x1) 27 n28 x2) n38 x3) d_T_add_38 ?_
  refine b_aload_n X d_T_add_39 0 rfl rfl ?_
  refine b_dup X d_T_add_40 rfl ?_
  refine b_get X fl_T_15 26 rfl (v := .int (xi σ 26 0)) rfl d_T_add_41 ?_
  refine b_iconst X (v := 1) d_T_add_44 (by decide) ?_
  refine b_iadd X d_T_add_45 ?_
  refine b_put X fl_T_15 pl_T_size 26 rfl rfl rfl (Nat.le_of_ble_eq_true rfl) (uWC_26_size G (wi (wi (wi σ 27 n18 x1) 27 n28 x2) 27 n38 x3) ((xi σ 26 0) + 1)) d_T_add_46 ?_
  refine b_aload_n X d_T_add_49 0 rfl rfl ?_
  refine b_get X fl_T_15 26 rfl (v := .int ((xi σ 26 0) + 1)) rfl d_T_add_50 ?_
  refine b_iconst X (v := 1) d_T_add_53 (by decide) ?_
  refine b_isub X d_T_add_54 ?_
  exact b_iret X d_T_add_55 ⟨rfl, rfl⟩
theorem ct26_T_choose_ (G : GG) (σ : St) (x1 : Int32) (x2 : Int32) (x3 : Int32) (x4 : Int32) (x5 : Int32) (n15 : Nat) (n25 : Nat) (n36 : Nat) (n48 : Nat) (e15 : ((x1 * 7) + 0) = nI n15) (h15 : n15 < 14000) (e25 : ((x1 * 7) + 1) = nI n25) (h25 : n25 < 14000) (e36 : ((x1 * 7) + 2) = nI n36) (h36 : n36 < 14000) (e48 : ((x1 * 7) + 6) = nI n48) (h48 : n48 < 14000) : Ct y_T_choose c_T_choose 7 none rm_T_choose G [.ref (xa σ 26), .int x1, .int x2, .int x3, .int x4, .int x5] (WC G σ) (eqp none (WC G (wi (wi (wi (wi σ 27 n15 x2) 27 n25 x3) 27 n36 x4) 27 n48 x5))) := by
  refine Ct.of (by decide +kernel) (Nat.le_of_ble_eq_true rfl) (fun K X => ?_)
  show Lb K G _ _ 7 0 [(0, .ref (xa σ 26)), (1, .int x1), (2, .int x2), (3, .int x3), (4, .int x4), (5, .int x5)] [] _ 0 0
  refine b_iload_n X d_T_choose_0 1 rfl rfl ?_
  refine b_bipush X (v := 7) d_T_choose_1 (by decide) ?_
  refine b_imul X d_T_choose_3 ?_
  refine b_istore X (lv' := [(0, .ref (xa σ 26)), (1, .int x1), (2, .int x2), (3, .int x3), (4, .int x4), (5, .int x5), (6, .int (x1 * 7))]) d_T_choose_4 (by decide) [1, 2, 3, 4, 5, 6, 0] rfl ?_
  refine b_aload_n X d_T_choose_6 0 rfl rfl ?_
  refine b_get X fl_T_11 26 rfl (v := .ref (xa σ 27)) rfl d_T_choose_7 ?_
  refine b_iload X d_T_choose_10 6 rfl ?_
  refine b_iconst X (v := 0) d_T_choose_12 (by decide) ?_
  refine b_iadd X d_T_choose_13 ?_
  refine b_iload_n X d_T_choose_14 2 rfl rfl ?_
  refine b_iast X 27 rfl (by decide) n15 e15 h15 (uWC_27 G σ n15 x2) d_T_choose_15 ?_
  refine b_aload_n X d_T_choose_16 0 rfl rfl ?_
  refine b_get X fl_T_11 26 rfl (v := .ref (xa σ 27)) rfl d_T_choose_17 ?_
  refine b_iload X d_T_choose_20 6 rfl ?_
  refine b_iconst X (v := 1) d_T_choose_22 (by decide) ?_
  refine b_iadd X d_T_choose_23 ?_
  refine b_iload_n X d_T_choose_24 3 rfl rfl ?_
  refine b_iast X 27 rfl (by decide) n25 e25 h25 (uWC_27 G (wi σ 27 n15 x2) n25 x3) d_T_choose_25 ?_
  refine b_aload_n X d_T_choose_26 0 rfl rfl ?_
  refine b_get X fl_T_11 26 rfl (v := .ref (xa σ 27)) rfl d_T_choose_27 ?_
  refine b_iload X d_T_choose_30 6 rfl ?_
  refine b_iconst X (v := 2) d_T_choose_32 (by decide) ?_
  refine b_iadd X d_T_choose_33 ?_
  refine b_iload X d_T_choose_34 4 rfl ?_
  refine b_iast X 27 rfl (by decide) n36 e36 h36 (uWC_27 G (wi (wi σ 27 n15 x2) 27 n25 x3) n36 x4) d_T_choose_36 ?_
  refine b_aload_n X d_T_choose_37 0 rfl rfl ?_
  refine b_get X fl_T_11 26 rfl (v := .ref (xa σ 27)) rfl d_T_choose_38 ?_
  refine b_iload X d_T_choose_41 6 rfl ?_
  refine b_bipush X (v := 6) d_T_choose_43 (by decide) ?_
  refine b_iadd X d_T_choose_45 ?_
  refine b_iload X d_T_choose_46 5 rfl ?_
  refine b_iast X 27 rfl (by decide) n48 e48 h48 (uWC_27 G (wi (wi (wi σ 27 n15 x2) 27 n25 x3) 27 n36 x4) n48 x5) d_T_choose_48 ?_
  exact b_vret X d_T_choose_49 ⟨rfl, rfl⟩
theorem ct_C_hasTree_ (G : GG) (σ : St)  (n9 : Nat) (e9 : ((0 * 61) + 0) = nI n9) (h9 : n9 < 976) (z17 : narrow .boolean (.int (hasB (xl σ 16 n9) (xi σ 12 0))) = .int (hasB (xl σ 16 n9) (xi σ 12 0))) : Ct y_C_hasTree c_C_hasTree 1 (some .boolean) rm_C_hasTree G [.ref (xa σ 12)] (WC G σ) (eqp (some (.int (hasB (xl σ 16 n9) (xi σ 12 0)))) (WC G σ)) := by
  refine Ct.of (by decide +kernel) (Nat.le_of_ble_eq_true rfl) (fun K X => ?_)
  show Lb K G _ _ 1 0 [(0, .ref (xa σ 12))] [] _ 0 0
  refine b_aload_n X d_C_hasTree_0 0 rfl rfl ?_
  refine b_get X fl_C_22 12 rfl (v := .ref (xa σ 16)) rfl d_C_hasTree_1 ?_
  refine b_iconst X (v := 0) d_C_hasTree_4 (by decide) ?_
  refine b_iconst X (v := 0) d_C_hasTree_5 (by decide) ?_
  refine b_dS X cf_C_at ci_C_at ml_C_66 (ct_C_at_ G σ 0 0) (As := [.int 0, .int 0]) (rest := [.ref (xa σ 16)]) rfl (Nat.le_of_ble_eq_true rfl) ⟨Nat.le_of_ble_eq_true rfl, Nat.le_of_ble_eq_true rfl⟩ ⟨Nat.le_of_ble_eq_true rfl, Nat.le_of_ble_eq_true rfl⟩ rfl rfl d_C_hasTree_6 ?_
  refine b_lald X 16 rfl (by decide) n9 e9 h9 d_C_hasTree_9 ?_
  refine b_aload_n X d_C_hasTree_10 0 rfl rfl ?_
  refine b_get X fl_C_43 12 rfl (v := .int (xi σ 12 0)) rfl d_C_hasTree_11 ?_
  refine b_dSN X cf_F_has ci_F_has mn_C_70 (ct_F_has G σ (xl σ 16 n9) (xi σ 12 0)) (As := [.long (xl σ 16 n9), .int (xi σ 12 0)]) (rest := []) rfl (Nat.le_of_ble_eq_true rfl) ⟨Nat.le_of_ble_eq_true rfl, Nat.le_of_ble_eq_true rfl⟩ ⟨Nat.le_of_ble_eq_true rfl, Nat.le_of_ble_eq_true rfl⟩ rfl rfl d_C_hasTree_14 ?_
  exact b_zret X z17 d_C_hasTree_17 ⟨rfl, rfl⟩
theorem ct_C_hasTree0 (G : GG) (σ : St) : Ct y_C_hasTree c_C_hasTree 1 (some .boolean) rm_C_hasTree G [.ref (xa σ 12)] (WC G σ) (eqp (some (.int (hasB (xl σ 16 0) (xi σ 12 0)))) (WC G σ)) := ct_C_hasTree_ G σ 0 (by decide) (by decide) (nar_b2i _)
theorem ct_C_farOfAll_ (G : GG) (σ : St)  (n9 : Nat) (e9 : ((0 * 61) + 0) = nI n9) (h9 : n9 < 976) : Ct y_C_farOfAll c_C_farOfAll 1 (some .int) rm_C_farOfAll G [.ref (xa σ 12)] (WC G σ) (eqp (some (.int (xi σ 17 n9))) (WC G σ)) := by
  refine Ct.of (by decide +kernel) (Nat.le_of_ble_eq_true rfl) (fun K X => ?_)
  show Lb K G _ _ 1 0 [(0, .ref (xa σ 12))] [] _ 0 0
  refine b_aload_n X d_C_farOfAll_0 0 rfl rfl ?_
  refine b_get X fl_C_25 12 rfl (v := .ref (xa σ 17)) rfl d_C_farOfAll_1 ?_
  refine b_iconst X (v := 0) d_C_farOfAll_4 (by decide) ?_
  refine b_iconst X (v := 0) d_C_farOfAll_5 (by decide) ?_
  refine b_dS X cf_C_at ci_C_at ml_C_66 (ct_C_at_ G σ 0 0) (As := [.int 0, .int 0]) (rest := [.ref (xa σ 17)]) rfl (Nat.le_of_ble_eq_true rfl) ⟨Nat.le_of_ble_eq_true rfl, Nat.le_of_ble_eq_true rfl⟩ ⟨Nat.le_of_ble_eq_true rfl, Nat.le_of_ble_eq_true rfl⟩ rfl rfl d_C_farOfAll_6 ?_
  refine b_iald X 17 rfl (by decide) n9 e9 h9 d_C_farOfAll_9 ?_
  exact b_iret X d_C_farOfAll_10 ⟨rfl, rfl⟩
theorem ct_C_farOfAll0 (G : GG) (σ : St) : Ct y_C_farOfAll c_C_farOfAll 1 (some .int) rm_C_farOfAll G [.ref (xa σ 12)] (WC G σ) (eqp (some (.int (xi σ 17 0))) (WC G σ)) := ct_C_farOfAll_ G σ 0 (by decide) (by decide)
theorem ct_C_soonOfAll_ (G : GG) (σ : St)  (n9 : Nat) (e9 : ((0 * 61) + 0) = nI n9) (h9 : n9 < 976) : Ct y_C_soonOfAll c_C_soonOfAll 1 (some .long) rm_C_soonOfAll G [.ref (xa σ 12)] (WC G σ) (eqp (some (.long (xl σ 18 n9))) (WC G σ)) := by
  refine Ct.of (by decide +kernel) (Nat.le_of_ble_eq_true rfl) (fun K X => ?_)
  show Lb K G _ _ 1 0 [(0, .ref (xa σ 12))] [] _ 0 0
  refine b_aload_n X d_C_soonOfAll_0 0 rfl rfl ?_
  refine b_get X fl_C_28 12 rfl (v := .ref (xa σ 18)) rfl d_C_soonOfAll_1 ?_
  refine b_iconst X (v := 0) d_C_soonOfAll_4 (by decide) ?_
  refine b_iconst X (v := 0) d_C_soonOfAll_5 (by decide) ?_
  refine b_dS X cf_C_at ci_C_at ml_C_66 (ct_C_at_ G σ 0 0) (As := [.int 0, .int 0]) (rest := [.ref (xa σ 18)]) rfl (Nat.le_of_ble_eq_true rfl) ⟨Nat.le_of_ble_eq_true rfl, Nat.le_of_ble_eq_true rfl⟩ ⟨Nat.le_of_ble_eq_true rfl, Nat.le_of_ble_eq_true rfl⟩ rfl rfl d_C_soonOfAll_6 ?_
  refine b_lald X 18 rfl (by decide) n9 e9 h9 d_C_soonOfAll_9 ?_
  exact b_lret X d_C_soonOfAll_10 ⟨rfl, rfl⟩
theorem ct_C_soonOfAll0 (G : GG) (σ : St) : Ct y_C_soonOfAll c_C_soonOfAll 1 (some .long) rm_C_soonOfAll G [.ref (xa σ 12)] (WC G σ) (eqp (some (.long (xl σ 18 0))) (WC G σ)) := ct_C_soonOfAll_ G σ 0 (by decide) (by decide)
theorem ct_S_outdate_ (G : GG) (σ : St)    : Ct y_S_outdate c_S_outdate 1 none rm_S_outdate G [.ref (xa σ 5)] (WC G σ) (eqp none (WC G (wi σ 5 0 0))) := by
  refine Ct.of (by decide +kernel) (Nat.le_of_ble_eq_true rfl) (fun K X => ?_)
  show Lb K G _ _ 1 0 [(0, .ref (xa σ 5))] [] _ 0 0
  refine b_aload_n X d_S_outdate_0 0 rfl rfl ?_
  refine b_iconst X (v := 0) d_S_outdate_1 (by decide) ?_
  refine b_put X fl_S_29 pl_S_current 5 rfl rfl rfl (Nat.le_of_ble_eq_true rfl) (uWC_5_current G σ 0) d_S_outdate_2 ?_
  exact b_vret X d_S_outdate_5 ⟨rfl, rfl⟩
theorem ct_S_ruleIsNothing_ (G : GG) (σ : St) (x1 : Int32)  (z9 : narrow .boolean (.int (hasB (Int32.toInt64 (xi σ 5 3)) x1)) = .int (hasB (Int32.toInt64 (xi σ 5 3)) x1)) : Ct y_S_ruleIsNothing c_S_ruleIsNothing 2 (some .boolean) rm_S_ruleIsNothing G [.ref (xa σ 5), .int x1] (WC G σ) (eqp (some (.int (hasB (Int32.toInt64 (xi σ 5 3)) x1))) (WC G σ)) := by
  refine Ct.of (by decide +kernel) (Nat.le_of_ble_eq_true rfl) (fun K X => ?_)
  show Lb K G _ _ 2 0 [(0, .ref (xa σ 5)), (1, .int x1)] [] _ 0 0
  refine b_aload_n X d_S_ruleIsNothing_0 0 rfl rfl ?_
  refine b_get X fl_S_58 5 rfl (v := .int (xi σ 5 3)) rfl d_S_ruleIsNothing_1 ?_
  refine b_i2l X (v := (Int32.toInt64 (xi σ 5 3))) d_S_ruleIsNothing_4 rfl ?_
  refine b_iload_n X d_S_ruleIsNothing_5 1 rfl rfl ?_
  refine b_dSN X cf_F_has ci_F_has mn_S_61 (ct_F_has G σ (Int32.toInt64 (xi σ 5 3)) x1) (As := [.long (Int32.toInt64 (xi σ 5 3)), .int x1]) (rest := []) rfl (Nat.le_of_ble_eq_true rfl) ⟨Nat.le_of_ble_eq_true rfl, Nat.le_of_ble_eq_true rfl⟩ ⟨Nat.le_of_ble_eq_true rfl, Nat.le_of_ble_eq_true rfl⟩ rfl rfl d_S_ruleIsNothing_6 ?_
  exact b_zret X z9 d_S_ruleIsNothing_9 ⟨rfl, rfl⟩
theorem ct_S_ruleIsNothing (G : GG) (σ : St) (x : Int32) : Ct y_S_ruleIsNothing c_S_ruleIsNothing 2 (some .boolean) rm_S_ruleIsNothing G [.ref (xa σ 5), .int x] (WC G σ) (eqp (some (.int (hasB (Int32.toInt64 (xi σ 5 3)) x))) (WC G σ)) := ct_S_ruleIsNothing_ G σ x (nar_b2i _)
theorem ct_S_ruleFirst_ (G : GG) (σ : St) (x1 : Int32) (n5 : Nat) (e5 : x1 = nI n5) (h5 : n5 < 16) : Ct y_S_ruleFirst c_S_ruleFirst 2 (some .long) rm_S_ruleFirst G [.ref (xa σ 5), .int x1] (WC G σ) (eqp (some (.long (xl σ 8 n5))) (WC G σ)) := by
  refine Ct.of (by decide +kernel) (Nat.le_of_ble_eq_true rfl) (fun K X => ?_)
  show Lb K G _ _ 2 0 [(0, .ref (xa σ 5)), (1, .int x1)] [] _ 0 0
  refine b_aload_n X d_S_ruleFirst_0 0 rfl rfl ?_
  refine b_get X fl_S_18 5 rfl (v := .ref (xa σ 8)) rfl d_S_ruleFirst_1 ?_
  refine b_iload_n X d_S_ruleFirst_4 1 rfl rfl ?_
  refine b_lald X 8 rfl (by decide) n5 e5 h5 d_S_ruleFirst_5 ?_
  exact b_lret X d_S_ruleFirst_6 ⟨rfl, rfl⟩
theorem ct_S_ruleFollowing_ (G : GG) (σ : St) (x1 : Int32) (n5 : Nat) (e5 : x1 = nI n5) (h5 : n5 < 16) : Ct y_S_ruleFollowing c_S_ruleFollowing 2 (some .long) rm_S_ruleFollowing G [.ref (xa σ 5), .int x1] (WC G σ) (eqp (some (.long (xl σ 9 n5))) (WC G σ)) := by
  refine Ct.of (by decide +kernel) (Nat.le_of_ble_eq_true rfl) (fun K X => ?_)
  show Lb K G _ _ 2 0 [(0, .ref (xa σ 5)), (1, .int x1)] [] _ 0 0
  refine b_aload_n X d_S_ruleFollowing_0 0 rfl rfl ?_
  refine b_get X fl_S_22 5 rfl (v := .ref (xa σ 9)) rfl d_S_ruleFollowing_1 ?_
  refine b_iload_n X d_S_ruleFollowing_4 1 rfl rfl ?_
  refine b_lald X 9 rfl (by decide) n5 e5 h5 d_S_ruleFollowing_5 ?_
  exact b_lret X d_S_ruleFollowing_6 ⟨rfl, rfl⟩
theorem ct_S_symbolIsNothing_t (G : GG) (σ : St) (x1 : Int32)  (c4 : ¬ (b2i (0 ≤ x1)) = 0) : Ct y_S_symbolIsNothing c_S_symbolIsNothing 2 (some .boolean) rm_S_symbolIsNothing G [.ref (xa σ 5), .int x1] (WC G σ) (eqp (some (.int 0)) (WC G σ)) := by
  refine Ct.of (by decide +kernel) (Nat.le_of_ble_eq_true rfl) (fun K X => ?_)
  show Lb K G _ _ 2 0 [(0, .ref (xa σ 5)), (1, .int x1)] [] _ 0 0
  refine b_iload_n X d_S_symbolIsNothing_0 1 rfl rfl ?_
  refine b_dS X cf_G_isToken ci_G_isToken ml_S_96 (ct_G_isToken G σ x1) (As := [.int x1]) (rest := []) rfl (Nat.le_of_ble_eq_true rfl) ⟨Nat.le_of_ble_eq_true rfl, Nat.le_of_ble_eq_true rfl⟩ ⟨Nat.le_of_ble_eq_true rfl, Nat.le_of_ble_eq_true rfl⟩ rfl rfl d_S_symbolIsNothing_1 ?_
  refine b_if_ne X (tgt := 26) d_S_symbolIsNothing_4 (by decide) (fun _ => ?_) (fun h => absurd h c4)
  refine b_iconst X (v := 0) d_S_symbolIsNothing_26 (by decide) ?_
  exact b_zret X rfl d_S_symbolIsNothing_27 ⟨rfl, rfl⟩
theorem ct_S_symbolIsNothing_ft (G : GG) (σ : St) (x1 : Int32)  (c4 : (b2i (0 ≤ x1)) = 0) (c19 : (hasB (Int32.toInt64 (xi σ 5 3)) ((-1) - x1)) = 0) : Ct y_S_symbolIsNothing c_S_symbolIsNothing 2 (some .boolean) rm_S_symbolIsNothing G [.ref (xa σ 5), .int x1] (WC G σ) (eqp (some (.int 0)) (WC G σ)) := by
  refine Ct.of (by decide +kernel) (Nat.le_of_ble_eq_true rfl) (fun K X => ?_)
  show Lb K G _ _ 2 0 [(0, .ref (xa σ 5)), (1, .int x1)] [] _ 0 0
  refine b_iload_n X d_S_symbolIsNothing_0 1 rfl rfl ?_
  refine b_dS X cf_G_isToken ci_G_isToken ml_S_96 (ct_G_isToken G σ x1) (As := [.int x1]) (rest := []) rfl (Nat.le_of_ble_eq_true rfl) ⟨Nat.le_of_ble_eq_true rfl, Nat.le_of_ble_eq_true rfl⟩ ⟨Nat.le_of_ble_eq_true rfl, Nat.le_of_ble_eq_true rfl⟩ rfl rfl d_S_symbolIsNothing_1 ?_
  refine b_if_ne X (tgt := 26) d_S_symbolIsNothing_4 (by decide) (fun h => absurd c4 h) (fun _ => ?_)
  refine b_aload_n X d_S_symbolIsNothing_7 0 rfl rfl ?_
  refine b_get X fl_S_58 5 rfl (v := .int (xi σ 5 3)) rfl d_S_symbolIsNothing_8 ?_
  refine b_i2l X (v := (Int32.toInt64 (xi σ 5 3))) d_S_symbolIsNothing_11 rfl ?_
  refine b_iload_n X d_S_symbolIsNothing_12 1 rfl rfl ?_
  refine b_dS X cf_G_ruleOf ci_G_ruleOf ml_S_99 (ct_G_ruleOf_ G σ x1) (As := [.int x1]) (rest := [.long (Int32.toInt64 (xi σ 5 3))]) rfl (Nat.le_of_ble_eq_true rfl) ⟨Nat.le_of_ble_eq_true rfl, Nat.le_of_ble_eq_true rfl⟩ ⟨Nat.le_of_ble_eq_true rfl, Nat.le_of_ble_eq_true rfl⟩ rfl rfl d_S_symbolIsNothing_13 ?_
  refine b_dSN X cf_F_has ci_F_has mn_S_61 (ct_F_has G σ (Int32.toInt64 (xi σ 5 3)) ((-1) - x1)) (As := [.long (Int32.toInt64 (xi σ 5 3)), .int ((-1) - x1)]) (rest := []) rfl (Nat.le_of_ble_eq_true rfl) ⟨Nat.le_of_ble_eq_true rfl, Nat.le_of_ble_eq_true rfl⟩ ⟨Nat.le_of_ble_eq_true rfl, Nat.le_of_ble_eq_true rfl⟩ rfl rfl d_S_symbolIsNothing_16 ?_
  refine b_if_eq X (tgt := 26) d_S_symbolIsNothing_19 (by decide) (fun _ => ?_) (fun h => absurd c19 h)
  refine b_iconst X (v := 0) d_S_symbolIsNothing_26 (by decide) ?_
  exact b_zret X rfl d_S_symbolIsNothing_27 ⟨rfl, rfl⟩
theorem ct_S_symbolIsNothing_ff (G : GG) (σ : St) (x1 : Int32)  (c4 : (b2i (0 ≤ x1)) = 0) (c19 : ¬ (hasB (Int32.toInt64 (xi σ 5 3)) ((-1) - x1)) = 0) : Ct y_S_symbolIsNothing c_S_symbolIsNothing 2 (some .boolean) rm_S_symbolIsNothing G [.ref (xa σ 5), .int x1] (WC G σ) (eqp (some (.int 1)) (WC G σ)) := by
  refine Ct.of (by decide +kernel) (Nat.le_of_ble_eq_true rfl) (fun K X => ?_)
  show Lb K G _ _ 2 0 [(0, .ref (xa σ 5)), (1, .int x1)] [] _ 0 0
  refine b_iload_n X d_S_symbolIsNothing_0 1 rfl rfl ?_
  refine b_dS X cf_G_isToken ci_G_isToken ml_S_96 (ct_G_isToken G σ x1) (As := [.int x1]) (rest := []) rfl (Nat.le_of_ble_eq_true rfl) ⟨Nat.le_of_ble_eq_true rfl, Nat.le_of_ble_eq_true rfl⟩ ⟨Nat.le_of_ble_eq_true rfl, Nat.le_of_ble_eq_true rfl⟩ rfl rfl d_S_symbolIsNothing_1 ?_
  refine b_if_ne X (tgt := 26) d_S_symbolIsNothing_4 (by decide) (fun h => absurd c4 h) (fun _ => ?_)
  refine b_aload_n X d_S_symbolIsNothing_7 0 rfl rfl ?_
  refine b_get X fl_S_58 5 rfl (v := .int (xi σ 5 3)) rfl d_S_symbolIsNothing_8 ?_
  refine b_i2l X (v := (Int32.toInt64 (xi σ 5 3))) d_S_symbolIsNothing_11 rfl ?_
  refine b_iload_n X d_S_symbolIsNothing_12 1 rfl rfl ?_
  refine b_dS X cf_G_ruleOf ci_G_ruleOf ml_S_99 (ct_G_ruleOf_ G σ x1) (As := [.int x1]) (rest := [.long (Int32.toInt64 (xi σ 5 3))]) rfl (Nat.le_of_ble_eq_true rfl) ⟨Nat.le_of_ble_eq_true rfl, Nat.le_of_ble_eq_true rfl⟩ ⟨Nat.le_of_ble_eq_true rfl, Nat.le_of_ble_eq_true rfl⟩ rfl rfl d_S_symbolIsNothing_13 ?_
  refine b_dSN X cf_F_has ci_F_has mn_S_61 (ct_F_has G σ (Int32.toInt64 (xi σ 5 3)) ((-1) - x1)) (As := [.long (Int32.toInt64 (xi σ 5 3)), .int ((-1) - x1)]) (rest := []) rfl (Nat.le_of_ble_eq_true rfl) ⟨Nat.le_of_ble_eq_true rfl, Nat.le_of_ble_eq_true rfl⟩ ⟨Nat.le_of_ble_eq_true rfl, Nat.le_of_ble_eq_true rfl⟩ rfl rfl d_S_symbolIsNothing_16 ?_
  refine b_if_eq X (tgt := 26) d_S_symbolIsNothing_19 (by decide) (fun h => absurd h c19) (fun _ => ?_)
  refine b_iconst X (v := 1) d_S_symbolIsNothing_22 (by decide) ?_
  refine b_goto X (tgt := 27) d_S_symbolIsNothing_23 (by decide) ?_
  exact b_zret X rfl d_S_symbolIsNothing_27 ⟨rfl, rfl⟩
theorem ct_S_symbolFirst_t (G : GG) (σ : St) (x1 : Int32) (n21 : Nat) (c4 : (b2i (0 ≤ x1)) = 0) (e21 : ((-1) - x1) = nI n21) (h21 : n21 < 16) : Ct y_S_symbolFirst c_S_symbolFirst 2 (some .long) rm_S_symbolFirst G [.ref (xa σ 5), .int x1] (WC G σ) (eqp (some (.long (xl σ 8 n21))) (WC G σ)) := by
  refine Ct.of (by decide +kernel) (Nat.le_of_ble_eq_true rfl) (fun K X => ?_)
  show Lb K G _ _ 2 0 [(0, .ref (xa σ 5)), (1, .int x1)] [] _ 0 0
  refine b_iload_n X d_S_symbolFirst_0 1 rfl rfl ?_
  refine b_dS X cf_G_isToken ci_G_isToken ml_S_96 (ct_G_isToken G σ x1) (As := [.int x1]) (rest := []) rfl (Nat.le_of_ble_eq_true rfl) ⟨Nat.le_of_ble_eq_true rfl, Nat.le_of_ble_eq_true rfl⟩ ⟨Nat.le_of_ble_eq_true rfl, Nat.le_of_ble_eq_true rfl⟩ rfl rfl d_S_symbolFirst_1 ?_
  refine b_if_eq X (tgt := 13) d_S_symbolFirst_4 (by decide) (fun _ => ?_) (fun h => absurd c4 h)
  refine b_aload_n X d_S_symbolFirst_13 0 rfl rfl ?_
  refine b_get X fl_S_18 5 rfl (v := .ref (xa σ 8)) rfl d_S_symbolFirst_14 ?_
  refine b_iload_n X d_S_symbolFirst_17 1 rfl rfl ?_
  refine b_dS X cf_G_ruleOf ci_G_ruleOf ml_S_99 (ct_G_ruleOf_ G σ x1) (As := [.int x1]) (rest := [.ref (xa σ 8)]) rfl (Nat.le_of_ble_eq_true rfl) ⟨Nat.le_of_ble_eq_true rfl, Nat.le_of_ble_eq_true rfl⟩ ⟨Nat.le_of_ble_eq_true rfl, Nat.le_of_ble_eq_true rfl⟩ rfl rfl d_S_symbolFirst_18 ?_
  refine b_lald X 8 rfl (by decide) n21 e21 h21 d_S_symbolFirst_21 ?_
  exact b_lret X d_S_symbolFirst_22 ⟨rfl, rfl⟩
theorem ct_S_symbolFirst_f (G : GG) (σ : St) (x1 : Int32)  (c4 : ¬ (b2i (0 ≤ x1)) = 0) : Ct y_S_symbolFirst c_S_symbolFirst 2 (some .long) rm_S_symbolFirst G [.ref (xa σ 5), .int x1] (WC G σ) (eqp (some (.long (shlL 1 x1))) (WC G σ)) := by
  refine Ct.of (by decide +kernel) (Nat.le_of_ble_eq_true rfl) (fun K X => ?_)
  show Lb K G _ _ 2 0 [(0, .ref (xa σ 5)), (1, .int x1)] [] _ 0 0
  refine b_iload_n X d_S_symbolFirst_0 1 rfl rfl ?_
  refine b_dS X cf_G_isToken ci_G_isToken ml_S_96 (ct_G_isToken G σ x1) (As := [.int x1]) (rest := []) rfl (Nat.le_of_ble_eq_true rfl) ⟨Nat.le_of_ble_eq_true rfl, Nat.le_of_ble_eq_true rfl⟩ ⟨Nat.le_of_ble_eq_true rfl, Nat.le_of_ble_eq_true rfl⟩ rfl rfl d_S_symbolFirst_1 ?_
  refine b_if_eq X (tgt := 13) d_S_symbolFirst_4 (by decide) (fun h => absurd h c4) (fun _ => ?_)
  refine b_lconst X (v := 1) d_S_symbolFirst_7 rfl ?_
  refine b_iload_n X d_S_symbolFirst_8 1 rfl rfl ?_
  refine b_lshl X (v := (shlL 1 x1)) d_S_symbolFirst_9 rfl ?_
  refine b_goto X (tgt := 22) d_S_symbolFirst_10 (by decide) ?_
  exact b_lret X d_S_symbolFirst_22 ⟨rfl, rfl⟩
