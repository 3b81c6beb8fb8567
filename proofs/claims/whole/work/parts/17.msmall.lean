/-! segments, by program (wip/gen) -/
theorem ct_M_thrown_ (G : GG) (σ : St)    : Ct y_M_thrown c_M_thrown 1 (some .int) rm_M_thrown G [.ref (xa σ 0)] (WM G σ) (eqp (some (.int (xi σ 0 0))) (WM G σ)) := by
  refine Ct.of (by decide +kernel) (Nat.le_of_ble_eq_true rfl) (fun K X => ?_)
  show Lb K G _ _ 1 0 [(0, .ref (xa σ 0))] [] _ 0 0
  refine b_aload_n X d_M_thrown_0 0 rfl rfl ?_
  refine b_get X fl_M_73 0 rfl (v := .int (xi σ 0 0)) rfl d_M_thrown_1 ?_
  exact b_iret X d_M_thrown_4 ⟨rfl, rfl⟩
theorem ct_M_symbolAt_ (G : GG) (σ : St) (x1 : Int32) (x2 : Int32) (x3 : Int32) (n15 : Nat) (e15 : (((64 * x1) + (8 * x2)) + x3) = nI n15) (h15 : n15 < 1024) : Ct y_M_symbolAt c_M_symbolAt 4 (some .int) rm_M_symbolAt G [.ref (xa σ 0), .int x1, .int x2, .int x3] (WM G σ) (eqp (some (.int (xi σ 3 n15))) (WM G σ)) := by
  refine Ct.of (by decide +kernel) (Nat.le_of_ble_eq_true rfl) (fun K X => ?_)
  show Lb K G _ _ 4 0 [(0, .ref (xa σ 0)), (1, .int x1), (2, .int x2), (3, .int x3)] [] _ 0 0
  refine b_aload_n X d_M_symbolAt_0 0 rfl rfl ?_
  refine b_get X fl_M_16 0 rfl (v := .ref (xa σ 3)) rfl d_M_symbolAt_1 ?_
  refine b_bipush X (v := 64) d_M_symbolAt_4 (by decide) ?_
  refine b_iload_n X d_M_symbolAt_6 1 rfl rfl ?_
  refine b_imul X d_M_symbolAt_7 ?_
  refine b_bipush X (v := 8) d_M_symbolAt_8 (by decide) ?_
  refine b_iload_n X d_M_symbolAt_10 2 rfl rfl ?_
  refine b_imul X d_M_symbolAt_11 ?_
  refine b_iadd X d_M_symbolAt_12 ?_
  refine b_iload_n X d_M_symbolAt_13 3 rfl rfl ?_
  refine b_iadd X d_M_symbolAt_14 ?_
  refine b_iald X 3 rfl (by decide) n15 e15 h15 d_M_symbolAt_15 ?_
  exact b_iret X d_M_symbolAt_16 ⟨rfl, rfl⟩
theorem ct_M_sizeOf_ (G : GG) (σ : St) (x1 : Int32) (x2 : Int32) (n10 : Nat) (e10 : ((8 * x1) + x2) = nI n10) (h10 : n10 < 128) : Ct y_M_sizeOf c_M_sizeOf 3 (some .int) rm_M_sizeOf G [.ref (xa σ 0), .int x1, .int x2] (WM G σ) (eqp (some (.int (xi σ 2 n10))) (WM G σ)) := by
  refine Ct.of (by decide +kernel) (Nat.le_of_ble_eq_true rfl) (fun K X => ?_)
  show Lb K G _ _ 3 0 [(0, .ref (xa σ 0)), (1, .int x1), (2, .int x2)] [] _ 0 0
  refine b_aload_n X d_M_sizeOf_0 0 rfl rfl ?_
  refine b_get X fl_M_13 0 rfl (v := .ref (xa σ 2)) rfl d_M_sizeOf_1 ?_
  refine b_bipush X (v := 8) d_M_sizeOf_4 (by decide) ?_
  refine b_iload_n X d_M_sizeOf_6 1 rfl rfl ?_
  refine b_imul X d_M_sizeOf_7 ?_
  refine b_iload_n X d_M_sizeOf_8 2 rfl rfl ?_
  refine b_iadd X d_M_sizeOf_9 ?_
  refine b_iald X 2 rfl (by decide) n10 e10 h10 d_M_sizeOf_10 ?_
  exact b_iret X d_M_sizeOf_11 ⟨rfl, rfl⟩
theorem ct_M_isRule_t (G : GG) (σ : St) (x0 : Int32)  (c1 : 0 ≤ x0) : Ct y_M_isRule c_M_isRule 1 (some .boolean) rm_M_isRule G [.int x0] (WM G σ) (eqp (some (.int 0)) (WM G σ)) := by
  refine Ct.of (by decide +kernel) (Nat.le_of_ble_eq_true rfl) (fun K X => ?_)
  show Lb K G _ _ 1 0 [(0, .int x0)] [] _ 0 0
  refine b_iload_n X d_M_isRule_0 0 rfl rfl ?_
  refine b_if_ge X (tgt := 8) d_M_isRule_1 (by decide) (fun _ => ?_) (fun h => absurd c1 h)
  refine b_iconst X (v := 0) d_M_isRule_8 (by decide) ?_
  exact b_zret X rfl d_M_isRule_9 ⟨rfl, rfl⟩
theorem ct_M_isRule_f (G : GG) (σ : St) (x0 : Int32)  (c1 : ¬ 0 ≤ x0) : Ct y_M_isRule c_M_isRule 1 (some .boolean) rm_M_isRule G [.int x0] (WM G σ) (eqp (some (.int 1)) (WM G σ)) := by
  refine Ct.of (by decide +kernel) (Nat.le_of_ble_eq_true rfl) (fun K X => ?_)
  show Lb K G _ _ 1 0 [(0, .int x0)] [] _ 0 0
  refine b_iload_n X d_M_isRule_0 0 rfl rfl ?_
  refine b_if_ge X (tgt := 8) d_M_isRule_1 (by decide) (fun h => absurd h c1) (fun _ => ?_)
  refine b_iconst X (v := 1) d_M_isRule_4 (by decide) ?_
  refine b_goto X (tgt := 9) d_M_isRule_5 (by decide) ?_
  exact b_zret X rfl d_M_isRule_9 ⟨rfl, rfl⟩
theorem ct_M_isRule (G : GG) (σ : St) (x : Int32) : Ct y_M_isRule c_M_isRule 1 (some .boolean) rm_M_isRule G [.int x] (WM G σ) (eqp (some (.int (b2i (x < 0)))) (WM G σ)) := by
  by_cases h : x < 0
  · have e : b2i (decide (x < 0)) = 1 := by rw [decide_eq_true h]; rfl
    rw [e]; exact ct_M_isRule_f G σ x (fun z => absurd h (Int32.not_lt.mpr z))
  · have e : b2i (decide (x < 0)) = 0 := by rw [decide_eq_false h]; rfl
    rw [e]; exact ct_M_isRule_t G σ x (Int32.not_lt.mp h)
theorem ct_M_capped_t (G : GG) (σ : St) (x0 : Int64)  (c4 : ¬ 1000000000 < x0) : Ct y_M_capped c_M_capped 2 (some .long) rm_M_capped G [.long x0] (WM G σ) (eqp (some (.long x0)) (WM G σ)) := by
  refine Ct.of (by decide +kernel) (Nat.le_of_ble_eq_true rfl) (fun K X => ?_)
  show Lb K G _ _ 2 0 [(0, .long x0)] [] _ 0 0
  refine b_lload_n X d_M_capped_0 0 rfl rfl ?_
  refine b_ldc2 X (v := 1000000000) kl_M_122 d_M_capped_1 ?_
  refine b_l_le X (tgt := 14) d_M_capped_4 d_M_capped_5 (by decide) (fun _ => ?_) (fun h => absurd h c4)
  refine b_lload_n X d_M_capped_14 0 rfl rfl ?_
  exact b_lret X d_M_capped_15 ⟨rfl, rfl⟩
theorem ct_M_capped_f (G : GG) (σ : St) (x0 : Int64)  (c4 : 1000000000 < x0) : Ct y_M_capped c_M_capped 2 (some .long) rm_M_capped G [.long x0] (WM G σ) (eqp (some (.long 1000000000)) (WM G σ)) := by
  refine Ct.of (by decide +kernel) (Nat.le_of_ble_eq_true rfl) (fun K X => ?_)
  show Lb K G _ _ 2 0 [(0, .long x0)] [] _ 0 0
  refine b_lload_n X d_M_capped_0 0 rfl rfl ?_
  refine b_ldc2 X (v := 1000000000) kl_M_122 d_M_capped_1 ?_
  refine b_l_le X (tgt := 14) d_M_capped_4 d_M_capped_5 (by decide) (fun h => absurd c4 h) (fun _ => ?_)
  refine b_ldc2 X (v := 1000000000) kl_M_122 d_M_capped_8 ?_
  refine b_goto X (tgt := 15) d_M_capped_11 (by decide) ?_
  exact b_lret X d_M_capped_15 ⟨rfl, rfl⟩
def capL (x : Int64) : Int64 := if 1000000000 < x then 1000000000 else x
theorem ct_M_capped (G : GG) (σ : St) (x : Int64) : Ct y_M_capped c_M_capped 2 (some .long) rm_M_capped G [.long x] (WM G σ) (eqp (some (.long (capL x))) (WM G σ)) := by
  unfold capL
  by_cases h : 1000000000 < x
  · rw [if_pos h]; exact ct_M_capped_f G σ x h
  · rw [if_neg h]; exact ct_M_capped_t G σ x h
theorem ct_M_isThere_t (G : GG) (σ : St) (x1 : Int32)  (c1 : x1 < 0) : Ct y_M_isThere c_M_isThere 2 (some .boolean) rm_M_isThere G [.ref (xa σ 0), .int x1] (WM G σ) (eqp (some (.int 0)) (WM G σ)) := by
  refine Ct.of (by decide +kernel) (Nat.le_of_ble_eq_true rfl) (fun K X => ?_)
  show Lb K G _ _ 2 0 [(0, .ref (xa σ 0)), (1, .int x1)] [] _ 0 0
  refine b_iload_n X d_M_isThere_0 1 rfl rfl ?_
  refine b_if_lt X (tgt := 16) d_M_isThere_1 (by decide) (fun _ => ?_) (fun h => absurd c1 h)
  refine b_iconst X (v := 0) d_M_isThere_16 (by decide) ?_
  exact b_zret X rfl d_M_isThere_17 ⟨rfl, rfl⟩
theorem ct_M_isThere_ft (G : GG) (σ : St) (x1 : Int32)  (c1 : ¬ x1 < 0) (c9 : (xi σ 0 1) ≤ x1) : Ct y_M_isThere c_M_isThere 2 (some .boolean) rm_M_isThere G [.ref (xa σ 0), .int x1] (WM G σ) (eqp (some (.int 0)) (WM G σ)) := by
  refine Ct.of (by decide +kernel) (Nat.le_of_ble_eq_true rfl) (fun K X => ?_)
  show Lb K G _ _ 2 0 [(0, .ref (xa σ 0)), (1, .int x1)] [] _ 0 0
  refine b_iload_n X d_M_isThere_0 1 rfl rfl ?_
  refine b_if_lt X (tgt := 16) d_M_isThere_1 (by decide) (fun h => absurd h c1) (fun _ => ?_)
  refine b_iload_n X d_M_isThere_4 1 rfl rfl ?_
  refine b_aload_n X d_M_isThere_5 0 rfl rfl ?_
  refine b_get X fl_M_89 0 rfl (v := .int (xi σ 0 1)) rfl d_M_isThere_6 ?_
  refine b_icmp_ge X (tgt := 16) d_M_isThere_9 (by decide) (fun _ => ?_) (fun h => absurd c9 h)
  refine b_iconst X (v := 0) d_M_isThere_16 (by decide) ?_
  exact b_zret X rfl d_M_isThere_17 ⟨rfl, rfl⟩
theorem ct_M_isThere_ff (G : GG) (σ : St) (x1 : Int32)  (c1 : ¬ x1 < 0) (c9 : ¬ (xi σ 0 1) ≤ x1) : Ct y_M_isThere c_M_isThere 2 (some .boolean) rm_M_isThere G [.ref (xa σ 0), .int x1] (WM G σ) (eqp (some (.int 1)) (WM G σ)) := by
  refine Ct.of (by decide +kernel) (Nat.le_of_ble_eq_true rfl) (fun K X => ?_)
  show Lb K G _ _ 2 0 [(0, .ref (xa σ 0)), (1, .int x1)] [] _ 0 0
  refine b_iload_n X d_M_isThere_0 1 rfl rfl ?_
  refine b_if_lt X (tgt := 16) d_M_isThere_1 (by decide) (fun h => absurd h c1) (fun _ => ?_)
  refine b_iload_n X d_M_isThere_4 1 rfl rfl ?_
  refine b_aload_n X d_M_isThere_5 0 rfl rfl ?_
  refine b_get X fl_M_89 0 rfl (v := .int (xi σ 0 1)) rfl d_M_isThere_6 ?_
  refine b_icmp_ge X (tgt := 16) d_M_isThere_9 (by decide) (fun h => absurd h c9) (fun _ => ?_)
  refine b_iconst X (v := 1) d_M_isThere_12 (by decide) ?_
  refine b_goto X (tgt := 17) d_M_isThere_13 (by decide) ?_
  exact b_zret X rfl d_M_isThere_17 ⟨rfl, rfl⟩
theorem ct_M_isThere (G : GG) (σ : St) (x : Int32) : Ct y_M_isThere c_M_isThere 2 (some .boolean) rm_M_isThere G [.ref (xa σ 0), .int x] (WM G σ) (eqp (some (.int (b2i (0 ≤ x ∧ x < xi σ 0 1)))) (WM G σ)) := by
  by_cases h1 : x < 0
  · have e : b2i (decide (0 ≤ x ∧ x < xi σ 0 1)) = 0 := by rw [decide_eq_false (fun z => absurd h1 (Int32.not_lt.mpr z.1))]; rfl
    rw [e]; exact ct_M_isThere_t G σ x h1
  · by_cases h2 : xi σ 0 1 ≤ x
    · have e : b2i (decide (0 ≤ x ∧ x < xi σ 0 1)) = 0 := by rw [decide_eq_false (fun z => absurd z.2 (Int32.not_lt.mpr h2))]; rfl
      rw [e]; exact ct_M_isThere_ft G σ x h1 h2
    · have e : b2i (decide (0 ≤ x ∧ x < xi σ 0 1)) = 1 := by rw [decide_eq_true ⟨Int32.not_lt.mp h1, Int32.not_le.mp h2⟩]; rfl
      rw [e]; exact ct_M_isThere_ff G σ x h1 h2
theorem ct_M_rule_t (G : GG) (σ : St)  (n36 : Nat) (c7 : ¬ (xi σ 0 1) = 16) (e36 : (xi σ 0 1) = nI n36) (h36 : n36 < 16) : Ct y_M_rule c_M_rule 1 (some .int) rm_M_rule G [.ref (xa σ 0)] (WM G σ) (eqp (some (.int (((xi σ 0 1) + 1) - 1))) (WM G (wi (wi (wi σ 0 0 0) 1 n36 0) 0 1 ((xi σ 0 1) + 1)))) := by
  refine Ct.of (by decide +kernel) (Nat.le_of_ble_eq_true rfl) (fun K X => ?_)
  show Lb K G _ _ 1 0 [(0, .ref (xa σ 0))] [] _ 0 0
  refine b_aload_n X d_M_rule_0 0 rfl rfl ?_
  refine b_aload_n X d_M_rule_1 0 rfl rfl ?_
  refine b_get X fl_M_89 0 rfl (v := .int (xi σ 0 1)) rfl d_M_rule_2 ?_
  refine b_bipush X (v := 16) d_M_rule_5 (by decide) ?_
  refine b_icmp_ne X (tgt := 14) d_M_rule_7 (by decide) (fun _ => ?_) (fun h => absurd h c7)
  refine b_iconst X (v := 0) d_M_rule_14 (by decide) ?_
  refine b_put X fl_M_73 pl_M_thrown 0 rfl rfl rfl (Nat.le_of_ble_eq_true rfl) (uWM_0_thrown G σ 0) d_M_rule_15 ?_
  refine b_aload_n X d_M_rule_18 0 rfl rfl ?_
  refine b_get X fl_M_73 0 rfl (v := .int 0) rfl d_M_rule_19 ?_
  refine b_if_le X (tgt := 27) d_M_rule_22 (by decide) (fun _ => ?_) (fun h => absurd h (by decide))
  refine b_aload_n X d_M_rule_27 0 rfl rfl ?_
  refine b_get X fl_M_7 0 rfl (v := .ref (xa σ 1)) rfl d_M_rule_28 ?_
  refine b_aload_n X d_M_rule_31 0 rfl rfl ?_
  refine b_get X fl_M_89 0 rfl (v := .int (xi σ 0 1)) rfl d_M_rule_32 ?_
  refine b_iconst X (v := 0) d_M_rule_35 (by decide) ?_
  refine b_iast X 1 rfl (by decide) n36 e36 h36 (uWM_1 G (wi σ 0 0 0) n36 0) d_M_rule_36 ?_
  refine b_aload_n X d_M_rule_37 0 rfl rfl ?_
  refine b_dup X d_M_rule_38 rfl ?_
  refine b_get X fl_M_89 0 rfl (v := .int (xi σ 0 1)) rfl d_M_rule_39 ?_
  refine b_iconst X (v := 1) d_M_rule_42 (by decide) ?_
  refine b_iadd X d_M_rule_43 ?_
  refine b_put X fl_M_89 pl_M_rules 0 rfl rfl rfl (Nat.le_of_ble_eq_true rfl) (uWM_0_rules G (wi (wi σ 0 0 0) 1 n36 0) ((xi σ 0 1) + 1)) d_M_rule_44 ?_
  refine b_aload_n X d_M_rule_47 0 rfl rfl ?_
  refine b_get X fl_M_89 0 rfl (v := .int ((xi σ 0 1) + 1)) rfl d_M_rule_48 ?_
  refine b_iconst X (v := 1) d_M_rule_51 (by decide) ?_
  refine b_isub X d_M_rule_52 ?_
  exact b_iret X d_M_rule_53 ⟨rfl, rfl⟩
theorem ct_M_rule_f (G : GG) (σ : St)   (c7 : (xi σ 0 1) = 16) : Ct y_M_rule c_M_rule 1 (some .int) rm_M_rule G [.ref (xa σ 0)] (WM G σ) (eqp (some (.int 0)) (WM G (wi σ 0 0 1))) := by
  refine Ct.of (by decide +kernel) (Nat.le_of_ble_eq_true rfl) (fun K X => ?_)
  show Lb K G _ _ 1 0 [(0, .ref (xa σ 0))] [] _ 0 0
  refine b_aload_n X d_M_rule_0 0 rfl rfl ?_
  refine b_aload_n X d_M_rule_1 0 rfl rfl ?_
  refine b_get X fl_M_89 0 rfl (v := .int (xi σ 0 1)) rfl d_M_rule_2 ?_
  refine b_bipush X (v := 16) d_M_rule_5 (by decide) ?_
  refine b_icmp_ne X (tgt := 14) d_M_rule_7 (by decide) (fun h => absurd c7 h) (fun _ => ?_)
  refine b_iconst X (v := 1) d_M_rule_10 (by decide) ?_
  refine b_goto X (tgt := 15) d_M_rule_11 (by decide) ?_
  refine b_put X fl_M_73 pl_M_thrown 0 rfl rfl rfl (Nat.le_of_ble_eq_true rfl) (uWM_0_thrown G σ 1) d_M_rule_15 ?_
  refine b_aload_n X d_M_rule_18 0 rfl rfl ?_
  refine b_get X fl_M_73 0 rfl (v := .int 1) rfl d_M_rule_19 ?_
  refine b_if_le X (tgt := 27) d_M_rule_22 (by decide) (fun h => absurd h (by decide)) (fun _ => ?_)
  refine b_iconst X (v := 0) d_M_rule_25 (by decide) ?_
  exact b_iret X d_M_rule_26 ⟨rfl, rfl⟩
theorem ct_M_alternative_tt (G : GG) (σ : St) (x1 : Int32) (n18 : Nat) (n59 : Nat) (c6 : ¬ (b2i (0 ≤ x1 ∧ x1 < xi σ 0 1)) = 0) (e18 : x1 = nI n18) (h18 : n18 < 16) (c21 : ¬ (xi σ 1 n18) = 8) (e59 : ((8 * x1) + (xi σ 1 n18)) = nI n59) (h59 : n59 < 128) : Ct y_M_alternative c_M_alternative 3 (some .int) rm_M_alternative G [.ref (xa σ 0), .int x1] (WM G σ) (eqp (some (.int (xi σ 1 n18))) (WM G (wi (wi (wi σ 0 0 0) 2 n59 0) 1 n18 ((xi σ 1 n18) + 1)))) := by
  refine Ct.of (by decide +kernel) (Nat.le_of_ble_eq_true rfl) (fun K X => ?_)
  show Lb K G _ _ 3 0 [(0, .ref (xa σ 0)), (1, .int x1)] [] _ 0 0
  refine b_aload_n X d_M_alternative_0 0 rfl rfl ?_
  refine b_aload_n X d_M_alternative_1 0 rfl rfl ?_
  refine b_iload_n X d_M_alternative_2 1 rfl rfl ?_
  refine b_dV X cf_M_isThere ci_M_isThere ml_M_168 (ct_M_isThere G σ x1) 0 rfl rfl (As := [.int x1]) (rest := [.ref (xa σ 0)]) rfl (Nat.le_of_ble_eq_true rfl) ⟨Nat.le_of_ble_eq_true rfl, Nat.le_of_ble_eq_true rfl⟩ ⟨Nat.le_of_ble_eq_true rfl, Nat.le_of_ble_eq_true rfl⟩ rfl rfl d_M_alternative_3 ?_
  refine b_if_ne X (tgt := 13) d_M_alternative_6 (by decide) (fun _ => ?_) (fun h => absurd h c6)
  refine b_aload_n X d_M_alternative_13 0 rfl rfl ?_
  refine b_get X fl_M_7 0 rfl (v := .ref (xa σ 1)) rfl d_M_alternative_14 ?_
  refine b_iload_n X d_M_alternative_17 1 rfl rfl ?_
  refine b_iald X 1 rfl (by decide) n18 e18 h18 d_M_alternative_18 ?_
  refine b_bipush X (v := 8) d_M_alternative_19 (by decide) ?_
  refine b_icmp_ne X (tgt := 28) d_M_alternative_21 (by decide) (fun _ => ?_) (fun h => absurd h c21)
  refine b_iconst X (v := 0) d_M_alternative_28 (by decide) ?_
  refine b_put X fl_M_73 pl_M_thrown 0 rfl rfl rfl (Nat.le_of_ble_eq_true rfl) (uWM_0_thrown G σ 0) d_M_alternative_29 ?_
  refine b_aload_n X d_M_alternative_32 0 rfl rfl ?_
  refine b_get X fl_M_73 0 rfl (v := .int 0) rfl d_M_alternative_33 ?_
  refine b_if_le X (tgt := 41) d_M_alternative_36 (by decide) (fun _ => ?_) (fun h => absurd h (by decide))
  refine b_aload_n X d_M_alternative_41 0 rfl rfl ?_
  refine b_get X fl_M_7 0 rfl (v := .ref (xa σ 1)) rfl d_M_alternative_42 ?_
  refine b_iload_n X d_M_alternative_45 1 rfl rfl ?_
  refine b_iald X 1 rfl (by decide) n18 e18 h18 d_M_alternative_46 ?_
  refine b_istore_n X (lv' := [(0, .ref (xa σ 0)), (1, .int x1), (2, .int (xi σ 1 n18))]) d_M_alternative_47 rfl (by decide) [1, 2, 0] rfl ?_
  refine b_aload_n X d_M_alternative_48 0 rfl rfl ?_
  refine b_get X fl_M_13 0 rfl (v := .ref (xa σ 2)) rfl d_M_alternative_49 ?_
  refine b_bipush X (v := 8) d_M_alternative_52 (by decide) ?_
  refine b_iload_n X d_M_alternative_54 1 rfl rfl ?_
  refine b_imul X d_M_alternative_55 ?_
  refine b_iload_n X d_M_alternative_56 2 rfl rfl ?_
  refine b_iadd X d_M_alternative_57 ?_
  refine b_iconst X (v := 0) d_M_alternative_58 (by decide) ?_
  refine b_iast X 2 rfl (by decide) n59 e59 h59 (uWM_2 G (wi σ 0 0 0) n59 0) d_M_alternative_59 ?_
  refine b_aload_n X d_M_alternative_60 0 rfl rfl ?_
  refine b_get X fl_M_7 0 rfl (v := .ref (xa σ 1)) rfl d_M_alternative_61 ?_
  refine b_iload_n X d_M_alternative_64 1 rfl rfl ?_
  refine b_dup2 X d_M_alternative_65 rfl rfl ?_
  refine b_iald X 1 rfl (by decide) n18 e18 h18 d_M_alternative_66 ?_
  refine b_iconst X (v := 1) d_M_alternative_67 (by decide) ?_
  refine b_iadd X d_M_alternative_68 ?_
  refine b_iast X 1 rfl (by decide) n18 e18 h18 (uWM_1 G (wi (wi σ 0 0 0) 2 n59 0) n18 ((xi σ 1 n18) + 1)) d_M_alternative_69 ?_
  refine b_iload_n X d_M_alternative_70 2 rfl rfl ?_
  exact b_iret X d_M_alternative_71 ⟨rfl, rfl⟩
theorem ct_M_alternative_tf (G : GG) (σ : St) (x1 : Int32) (n18 : Nat) (c6 : ¬ (b2i (0 ≤ x1 ∧ x1 < xi σ 0 1)) = 0) (e18 : x1 = nI n18) (h18 : n18 < 16) (c21 : (xi σ 1 n18) = 8) : Ct y_M_alternative c_M_alternative 3 (some .int) rm_M_alternative G [.ref (xa σ 0), .int x1] (WM G σ) (eqp (some (.int 0)) (WM G (wi σ 0 0 2))) := by
  refine Ct.of (by decide +kernel) (Nat.le_of_ble_eq_true rfl) (fun K X => ?_)
  show Lb K G _ _ 3 0 [(0, .ref (xa σ 0)), (1, .int x1)] [] _ 0 0
  refine b_aload_n X d_M_alternative_0 0 rfl rfl ?_
  refine b_aload_n X d_M_alternative_1 0 rfl rfl ?_
  refine b_iload_n X d_M_alternative_2 1 rfl rfl ?_
  refine b_dV X cf_M_isThere ci_M_isThere ml_M_168 (ct_M_isThere G σ x1) 0 rfl rfl (As := [.int x1]) (rest := [.ref (xa σ 0)]) rfl (Nat.le_of_ble_eq_true rfl) ⟨Nat.le_of_ble_eq_true rfl, Nat.le_of_ble_eq_true rfl⟩ ⟨Nat.le_of_ble_eq_true rfl, Nat.le_of_ble_eq_true rfl⟩ rfl rfl d_M_alternative_3 ?_
  refine b_if_ne X (tgt := 13) d_M_alternative_6 (by decide) (fun _ => ?_) (fun h => absurd h c6)
  refine b_aload_n X d_M_alternative_13 0 rfl rfl ?_
  refine b_get X fl_M_7 0 rfl (v := .ref (xa σ 1)) rfl d_M_alternative_14 ?_
  refine b_iload_n X d_M_alternative_17 1 rfl rfl ?_
  refine b_iald X 1 rfl (by decide) n18 e18 h18 d_M_alternative_18 ?_
  refine b_bipush X (v := 8) d_M_alternative_19 (by decide) ?_
  refine b_icmp_ne X (tgt := 28) d_M_alternative_21 (by decide) (fun h => absurd c21 h) (fun _ => ?_)
  refine b_iconst X (v := 2) d_M_alternative_24 (by decide) ?_
  refine b_goto X (tgt := 29) d_M_alternative_25 (by decide) ?_
  refine b_put X fl_M_73 pl_M_thrown 0 rfl rfl rfl (Nat.le_of_ble_eq_true rfl) (uWM_0_thrown G σ 2) d_M_alternative_29 ?_
  refine b_aload_n X d_M_alternative_32 0 rfl rfl ?_
  refine b_get X fl_M_73 0 rfl (v := .int 2) rfl d_M_alternative_33 ?_
  refine b_if_le X (tgt := 41) d_M_alternative_36 (by decide) (fun h => absurd h (by decide)) (fun _ => ?_)
  refine b_iconst X (v := 0) d_M_alternative_39 (by decide) ?_
  exact b_iret X d_M_alternative_40 ⟨rfl, rfl⟩
theorem ct_M_alternative_f (G : GG) (σ : St) (x1 : Int32)  (c6 : (b2i (0 ≤ x1 ∧ x1 < xi σ 0 1)) = 0) : Ct y_M_alternative c_M_alternative 3 (some .int) rm_M_alternative G [.ref (xa σ 0), .int x1] (WM G σ) (eqp (some (.int 0)) (WM G (wi σ 0 0 1))) := by
  refine Ct.of (by decide +kernel) (Nat.le_of_ble_eq_true rfl) (fun K X => ?_)
  show Lb K G _ _ 3 0 [(0, .ref (xa σ 0)), (1, .int x1)] [] _ 0 0
  refine b_aload_n X d_M_alternative_0 0 rfl rfl ?_
  refine b_aload_n X d_M_alternative_1 0 rfl rfl ?_
  refine b_iload_n X d_M_alternative_2 1 rfl rfl ?_
  refine b_dV X cf_M_isThere ci_M_isThere ml_M_168 (ct_M_isThere G σ x1) 0 rfl rfl (As := [.int x1]) (rest := [.ref (xa σ 0)]) rfl (Nat.le_of_ble_eq_true rfl) ⟨Nat.le_of_ble_eq_true rfl, Nat.le_of_ble_eq_true rfl⟩ ⟨Nat.le_of_ble_eq_true rfl, Nat.le_of_ble_eq_true rfl⟩ rfl rfl d_M_alternative_3 ?_
  refine b_if_ne X (tgt := 13) d_M_alternative_6 (by decide) (fun h => absurd c6 h) (fun _ => ?_)
  refine b_iconst X (v := 1) d_M_alternative_9 (by decide) ?_
  refine b_goto X (tgt := 29) d_M_alternative_10 (by decide) ?_
  refine b_put X fl_M_73 pl_M_thrown 0 rfl rfl rfl (Nat.le_of_ble_eq_true rfl) (uWM_0_thrown G σ 1) d_M_alternative_29 ?_
  refine b_aload_n X d_M_alternative_32 0 rfl rfl ?_
  refine b_get X fl_M_73 0 rfl (v := .int 1) rfl d_M_alternative_33 ?_
  refine b_if_le X (tgt := 41) d_M_alternative_36 (by decide) (fun h => absurd h (by decide)) (fun _ => ?_)
  refine b_iconst X (v := 0) d_M_alternative_39 (by decide) ?_
  exact b_iret X d_M_alternative_40 ⟨rfl, rfl⟩
theorem ct_M_symbol_ttt (G : GG) (σ : St) (x1 : Int32) (x2 : Int32)  (c5 : (b2i (0 ≤ x1 ∧ x1 < xi σ 0 1)) = 0) (c27 : ¬ (b2i (0 ≤ x1 ∧ x1 < xi σ 0 1)) = 0) (c37 : x2 < (-16)) : Ct y_M_symbol c_M_symbol 4 (some .int) rm_M_symbol G [.ref (xa σ 0), .int x1, .int x2] (WM G σ) (eqp (some (.int 0)) (WM G (wi σ 0 0 2))) := by
  refine Ct.of (by decide +kernel) (Nat.le_of_ble_eq_true rfl) (fun K X => ?_)
  show Lb K G _ _ 4 0 [(0, .ref (xa σ 0)), (1, .int x1), (2, .int x2)] [] _ 0 0
  refine b_aload_n X d_M_symbol_0 0 rfl rfl ?_
  refine b_iload_n X d_M_symbol_1 1 rfl rfl ?_
  refine b_dV X cf_M_isThere ci_M_isThere ml_M_168 (ct_M_isThere G σ x1) 0 rfl rfl (As := [.int x1]) (rest := []) rfl (Nat.le_of_ble_eq_true rfl) ⟨Nat.le_of_ble_eq_true rfl, Nat.le_of_ble_eq_true rfl⟩ ⟨Nat.le_of_ble_eq_true rfl, Nat.le_of_ble_eq_true rfl⟩ rfl rfl d_M_symbol_2 ?_
  refine b_if_eq X (tgt := 19) d_M_symbol_5 (by decide) (fun _ => ?_) (fun h => absurd c5 h)
  refine b_iconst X (v := (-1)) d_M_symbol_19 (by decide) ?_
  refine b_istore_n X (lv' := [(0, .ref (xa σ 0)), (1, .int x1), (2, .int x2), (3, .int (-1))]) d_M_symbol_20 rfl (by decide) [1, 2, 3, 0] rfl ?_
  refine b_aload_n X d_M_symbol_21 0 rfl rfl ?_
  refine b_aload_n X d_M_symbol_22 0 rfl rfl ?_
  refine b_iload_n X d_M_symbol_23 1 rfl rfl ?_
  refine b_dV X cf_M_isThere ci_M_isThere ml_M_168 (ct_M_isThere G σ x1) 0 rfl rfl (As := [.int x1]) (rest := [.ref (xa σ 0)]) rfl (Nat.le_of_ble_eq_true rfl) ⟨Nat.le_of_ble_eq_true rfl, Nat.le_of_ble_eq_true rfl⟩ ⟨Nat.le_of_ble_eq_true rfl, Nat.le_of_ble_eq_true rfl⟩ rfl rfl d_M_symbol_24 ?_
  refine b_if_ne X (tgt := 34) d_M_symbol_27 (by decide) (fun _ => ?_) (fun h => absurd h c27)
  refine b_iload_n X d_M_symbol_34 2 rfl rfl ?_
  refine b_bipush X (v := (-16)) d_M_symbol_35 (by decide) ?_
  refine b_icmp_lt X (tgt := 46) d_M_symbol_37 (by decide) (fun _ => ?_) (fun h => absurd c37 h)
  refine b_iconst X (v := 2) d_M_symbol_46 (by decide) ?_
  refine b_goto X (tgt := 74) d_M_symbol_47 (by decide) ?_
  refine b_put X fl_M_73 pl_M_thrown 0 rfl rfl rfl (Nat.le_of_ble_eq_true rfl) (uWM_0_thrown G σ 2) d_M_symbol_74 ?_
  refine b_aload_n X d_M_symbol_77 0 rfl rfl ?_
  refine b_get X fl_M_73 0 rfl (v := .int 2) rfl d_M_symbol_78 ?_
  refine b_if_le X (tgt := 86) d_M_symbol_81 (by decide) (fun h => absurd h (by decide)) (fun _ => ?_)
  refine b_iconst X (v := 0) d_M_symbol_84 (by decide) ?_
  exact b_iret X d_M_symbol_85 ⟨rfl, rfl⟩
theorem ct_M_symbol_ttft (G : GG) (σ : St) (x1 : Int32) (x2 : Int32)  (c5 : (b2i (0 ≤ x1 ∧ x1 < xi σ 0 1)) = 0) (c27 : ¬ (b2i (0 ≤ x1 ∧ x1 < xi σ 0 1)) = 0) (c37 : ¬ x2 < (-16)) (c43 : x2 ≤ 31) : Ct y_M_symbol c_M_symbol 4 (some .int) rm_M_symbol G [.ref (xa σ 0), .int x1, .int x2] (WM G σ) (eqp (some (.int 0)) (WM G (wi σ 0 0 3))) := by
  refine Ct.of (by decide +kernel) (Nat.le_of_ble_eq_true rfl) (fun K X => ?_)
  show Lb K G _ _ 4 0 [(0, .ref (xa σ 0)), (1, .int x1), (2, .int x2)] [] _ 0 0
  refine b_aload_n X d_M_symbol_0 0 rfl rfl ?_
  refine b_iload_n X d_M_symbol_1 1 rfl rfl ?_
  refine b_dV X cf_M_isThere ci_M_isThere ml_M_168 (ct_M_isThere G σ x1) 0 rfl rfl (As := [.int x1]) (rest := []) rfl (Nat.le_of_ble_eq_true rfl) ⟨Nat.le_of_ble_eq_true rfl, Nat.le_of_ble_eq_true rfl⟩ ⟨Nat.le_of_ble_eq_true rfl, Nat.le_of_ble_eq_true rfl⟩ rfl rfl d_M_symbol_2 ?_
  refine b_if_eq X (tgt := 19) d_M_symbol_5 (by decide) (fun _ => ?_) (fun h => absurd c5 h)
  refine b_iconst X (v := (-1)) d_M_symbol_19 (by decide) ?_
  refine b_istore_n X (lv' := [(0, .ref (xa σ 0)), (1, .int x1), (2, .int x2), (3, .int (-1))]) d_M_symbol_20 rfl (by decide) [1, 2, 3, 0] rfl ?_
  refine b_aload_n X d_M_symbol_21 0 rfl rfl ?_
  refine b_aload_n X d_M_symbol_22 0 rfl rfl ?_
  refine b_iload_n X d_M_symbol_23 1 rfl rfl ?_
  refine b_dV X cf_M_isThere ci_M_isThere ml_M_168 (ct_M_isThere G σ x1) 0 rfl rfl (As := [.int x1]) (rest := [.ref (xa σ 0)]) rfl (Nat.le_of_ble_eq_true rfl) ⟨Nat.le_of_ble_eq_true rfl, Nat.le_of_ble_eq_true rfl⟩ ⟨Nat.le_of_ble_eq_true rfl, Nat.le_of_ble_eq_true rfl⟩ rfl rfl d_M_symbol_24 ?_
  refine b_if_ne X (tgt := 34) d_M_symbol_27 (by decide) (fun _ => ?_) (fun h => absurd h c27)
  refine b_iload_n X d_M_symbol_34 2 rfl rfl ?_
  refine b_bipush X (v := (-16)) d_M_symbol_35 (by decide) ?_
  refine b_icmp_lt X (tgt := 46) d_M_symbol_37 (by decide) (fun h => absurd h c37) (fun _ => ?_)
  refine b_iload_n X d_M_symbol_40 2 rfl rfl ?_
  refine b_bipush X (v := 31) d_M_symbol_41 (by decide) ?_
  refine b_icmp_le X (tgt := 50) d_M_symbol_43 (by decide) (fun _ => ?_) (fun h => absurd c43 h)
  refine b_iload_n X d_M_symbol_50 3 rfl rfl ?_
  refine b_if_ge X (tgt := 58) d_M_symbol_51 (by decide) (fun h => absurd h (by decide)) (fun _ => ?_)
  refine b_iconst X (v := 3) d_M_symbol_54 (by decide) ?_
  refine b_goto X (tgt := 74) d_M_symbol_55 (by decide) ?_
  refine b_put X fl_M_73 pl_M_thrown 0 rfl rfl rfl (Nat.le_of_ble_eq_true rfl) (uWM_0_thrown G σ 3) d_M_symbol_74 ?_
  refine b_aload_n X d_M_symbol_77 0 rfl rfl ?_
  refine b_get X fl_M_73 0 rfl (v := .int 3) rfl d_M_symbol_78 ?_
  refine b_if_le X (tgt := 86) d_M_symbol_81 (by decide) (fun h => absurd h (by decide)) (fun _ => ?_)
  refine b_iconst X (v := 0) d_M_symbol_84 (by decide) ?_
  exact b_iret X d_M_symbol_85 ⟨rfl, rfl⟩
theorem ct_M_symbol_ttff (G : GG) (σ : St) (x1 : Int32) (x2 : Int32)  (c5 : (b2i (0 ≤ x1 ∧ x1 < xi σ 0 1)) = 0) (c27 : ¬ (b2i (0 ≤ x1 ∧ x1 < xi σ 0 1)) = 0) (c37 : ¬ x2 < (-16)) (c43 : ¬ x2 ≤ 31) : Ct y_M_symbol c_M_symbol 4 (some .int) rm_M_symbol G [.ref (xa σ 0), .int x1, .int x2] (WM G σ) (eqp (some (.int 0)) (WM G (wi σ 0 0 2))) := by
  refine Ct.of (by decide +kernel) (Nat.le_of_ble_eq_true rfl) (fun K X => ?_)
  show Lb K G _ _ 4 0 [(0, .ref (xa σ 0)), (1, .int x1), (2, .int x2)] [] _ 0 0
  refine b_aload_n X d_M_symbol_0 0 rfl rfl ?_
  refine b_iload_n X d_M_symbol_1 1 rfl rfl ?_
  refine b_dV X cf_M_isThere ci_M_isThere ml_M_168 (ct_M_isThere G σ x1) 0 rfl rfl (As := [.int x1]) (rest := []) rfl (Nat.le_of_ble_eq_true rfl) ⟨Nat.le_of_ble_eq_true rfl, Nat.le_of_ble_eq_true rfl⟩ ⟨Nat.le_of_ble_eq_true rfl, Nat.le_of_ble_eq_true rfl⟩ rfl rfl d_M_symbol_2 ?_
  refine b_if_eq X (tgt := 19) d_M_symbol_5 (by decide) (fun _ => ?_) (fun h => absurd c5 h)
  refine b_iconst X (v := (-1)) d_M_symbol_19 (by decide) ?_
  refine b_istore_n X (lv' := [(0, .ref (xa σ 0)), (1, .int x1), (2, .int x2), (3, .int (-1))]) d_M_symbol_20 rfl (by decide) [1, 2, 3, 0] rfl ?_
  refine b_aload_n X d_M_symbol_21 0 rfl rfl ?_
  refine b_aload_n X d_M_symbol_22 0 rfl rfl ?_
  refine b_iload_n X d_M_symbol_23 1 rfl rfl ?_
  refine b_dV X cf_M_isThere ci_M_isThere ml_M_168 (ct_M_isThere G σ x1) 0 rfl rfl (As := [.int x1]) (rest := [.ref (xa σ 0)]) rfl (Nat.le_of_ble_eq_true rfl) ⟨Nat.le_of_ble_eq_true rfl, Nat.le_of_ble_eq_true rfl⟩ ⟨Nat.le_of_ble_eq_true rfl, Nat.le_of_ble_eq_true rfl⟩ rfl rfl d_M_symbol_24 ?_
  refine b_if_ne X (tgt := 34) d_M_symbol_27 (by decide) (fun _ => ?_) (fun h => absurd h c27)
  refine b_iload_n X d_M_symbol_34 2 rfl rfl ?_
  refine b_bipush X (v := (-16)) d_M_symbol_35 (by decide) ?_
  refine b_icmp_lt X (tgt := 46) d_M_symbol_37 (by decide) (fun h => absurd h c37) (fun _ => ?_)
  refine b_iload_n X d_M_symbol_40 2 rfl rfl ?_
  refine b_bipush X (v := 31) d_M_symbol_41 (by decide) ?_
  refine b_icmp_le X (tgt := 50) d_M_symbol_43 (by decide) (fun h => absurd h c43) (fun _ => ?_)
  refine b_iconst X (v := 2) d_M_symbol_46 (by decide) ?_
  refine b_goto X (tgt := 74) d_M_symbol_47 (by decide) ?_
  refine b_put X fl_M_73 pl_M_thrown 0 rfl rfl rfl (Nat.le_of_ble_eq_true rfl) (uWM_0_thrown G σ 2) d_M_symbol_74 ?_
  refine b_aload_n X d_M_symbol_77 0 rfl rfl ?_
  refine b_get X fl_M_73 0 rfl (v := .int 2) rfl d_M_symbol_78 ?_
  refine b_if_le X (tgt := 86) d_M_symbol_81 (by decide) (fun h => absurd h (by decide)) (fun _ => ?_)
  refine b_iconst X (v := 0) d_M_symbol_84 (by decide) ?_
  exact b_iret X d_M_symbol_85 ⟨rfl, rfl⟩
theorem ct_M_symbol_tf (G : GG) (σ : St) (x1 : Int32) (x2 : Int32)  (c5 : (b2i (0 ≤ x1 ∧ x1 < xi σ 0 1)) = 0) (c27 : (b2i (0 ≤ x1 ∧ x1 < xi σ 0 1)) = 0) : Ct y_M_symbol c_M_symbol 4 (some .int) rm_M_symbol G [.ref (xa σ 0), .int x1, .int x2] (WM G σ) (eqp (some (.int 0)) (WM G (wi σ 0 0 1))) := by
  refine Ct.of (by decide +kernel) (Nat.le_of_ble_eq_true rfl) (fun K X => ?_)
  show Lb K G _ _ 4 0 [(0, .ref (xa σ 0)), (1, .int x1), (2, .int x2)] [] _ 0 0
  refine b_aload_n X d_M_symbol_0 0 rfl rfl ?_
  refine b_iload_n X d_M_symbol_1 1 rfl rfl ?_
  refine b_dV X cf_M_isThere ci_M_isThere ml_M_168 (ct_M_isThere G σ x1) 0 rfl rfl (As := [.int x1]) (rest := []) rfl (Nat.le_of_ble_eq_true rfl) ⟨Nat.le_of_ble_eq_true rfl, Nat.le_of_ble_eq_true rfl⟩ ⟨Nat.le_of_ble_eq_true rfl, Nat.le_of_ble_eq_true rfl⟩ rfl rfl d_M_symbol_2 ?_
  refine b_if_eq X (tgt := 19) d_M_symbol_5 (by decide) (fun _ => ?_) (fun h => absurd c5 h)
  refine b_iconst X (v := (-1)) d_M_symbol_19 (by decide) ?_
  refine b_istore_n X (lv' := [(0, .ref (xa σ 0)), (1, .int x1), (2, .int x2), (3, .int (-1))]) d_M_symbol_20 rfl (by decide) [1, 2, 3, 0] rfl ?_
  refine b_aload_n X d_M_symbol_21 0 rfl rfl ?_
  refine b_aload_n X d_M_symbol_22 0 rfl rfl ?_
  refine b_iload_n X d_M_symbol_23 1 rfl rfl ?_
  refine b_dV X cf_M_isThere ci_M_isThere ml_M_168 (ct_M_isThere G σ x1) 0 rfl rfl (As := [.int x1]) (rest := [.ref (xa σ 0)]) rfl (Nat.le_of_ble_eq_true rfl) ⟨Nat.le_of_ble_eq_true rfl, Nat.le_of_ble_eq_true rfl⟩ ⟨Nat.le_of_ble_eq_true rfl, Nat.le_of_ble_eq_true rfl⟩ rfl rfl d_M_symbol_24 ?_
  refine b_if_ne X (tgt := 34) d_M_symbol_27 (by decide) (fun h => absurd c27 h) (fun _ => ?_)
  refine b_iconst X (v := 1) d_M_symbol_30 (by decide) ?_
  refine b_goto X (tgt := 74) d_M_symbol_31 (by decide) ?_
  refine b_put X fl_M_73 pl_M_thrown 0 rfl rfl rfl (Nat.le_of_ble_eq_true rfl) (uWM_0_thrown G σ 1) d_M_symbol_74 ?_
  refine b_aload_n X d_M_symbol_77 0 rfl rfl ?_
  refine b_get X fl_M_73 0 rfl (v := .int 1) rfl d_M_symbol_78 ?_
  refine b_if_le X (tgt := 86) d_M_symbol_81 (by decide) (fun h => absurd h (by decide)) (fun _ => ?_)
  refine b_iconst X (v := 0) d_M_symbol_84 (by decide) ?_
  exact b_iret X d_M_symbol_85 ⟨rfl, rfl⟩
theorem ct_M_symbol_ftt (G : GG) (σ : St) (x1 : Int32) (x2 : Int32) (n13 : Nat) (c5 : ¬ (b2i (0 ≤ x1 ∧ x1 < xi σ 0 1)) = 0) (e13 : x1 = nI n13) (h13 : n13 < 16) (c27 : ¬ (b2i (0 ≤ x1 ∧ x1 < xi σ 0 1)) = 0) (c37 : x2 < (-16)) : Ct y_M_symbol c_M_symbol 4 (some .int) rm_M_symbol G [.ref (xa σ 0), .int x1, .int x2] (WM G σ) (eqp (some (.int 0)) (WM G (wi σ 0 0 2))) := by
  refine Ct.of (by decide +kernel) (Nat.le_of_ble_eq_true rfl) (fun K X => ?_)
  show Lb K G _ _ 4 0 [(0, .ref (xa σ 0)), (1, .int x1), (2, .int x2)] [] _ 0 0
  refine b_aload_n X d_M_symbol_0 0 rfl rfl ?_
  refine b_iload_n X d_M_symbol_1 1 rfl rfl ?_
  refine b_dV X cf_M_isThere ci_M_isThere ml_M_168 (ct_M_isThere G σ x1) 0 rfl rfl (As := [.int x1]) (rest := []) rfl (Nat.le_of_ble_eq_true rfl) ⟨Nat.le_of_ble_eq_true rfl, Nat.le_of_ble_eq_true rfl⟩ ⟨Nat.le_of_ble_eq_true rfl, Nat.le_of_ble_eq_true rfl⟩ rfl rfl d_M_symbol_2 ?_
  refine b_if_eq X (tgt := 19) d_M_symbol_5 (by decide) (fun h => absurd h c5) (fun _ => ?_)
  refine b_aload_n X d_M_symbol_8 0 rfl rfl ?_
  refine b_get X fl_M_7 0 rfl (v := .ref (xa σ 1)) rfl d_M_symbol_9 ?_
  refine b_iload_n X d_M_symbol_12 1 rfl rfl ?_
  refine b_iald X 1 rfl (by decide) n13 e13 h13 d_M_symbol_13 ?_
  refine b_iconst X (v := 1) d_M_symbol_14 (by decide) ?_
  refine b_isub X d_M_symbol_15 ?_
  refine b_goto X (tgt := 20) d_M_symbol_16 (by decide) ?_
  refine b_istore_n X (lv' := [(0, .ref (xa σ 0)), (1, .int x1), (2, .int x2), (3, .int ((xi σ 1 n13) - 1))]) d_M_symbol_20 rfl (by decide) [1, 2, 3, 0] rfl ?_
  refine b_aload_n X d_M_symbol_21 0 rfl rfl ?_
  refine b_aload_n X d_M_symbol_22 0 rfl rfl ?_
  refine b_iload_n X d_M_symbol_23 1 rfl rfl ?_
  refine b_dV X cf_M_isThere ci_M_isThere ml_M_168 (ct_M_isThere G σ x1) 0 rfl rfl (As := [.int x1]) (rest := [.ref (xa σ 0)]) rfl (Nat.le_of_ble_eq_true rfl) ⟨Nat.le_of_ble_eq_true rfl, Nat.le_of_ble_eq_true rfl⟩ ⟨Nat.le_of_ble_eq_true rfl, Nat.le_of_ble_eq_true rfl⟩ rfl rfl d_M_symbol_24 ?_
  refine b_if_ne X (tgt := 34) d_M_symbol_27 (by decide) (fun _ => ?_) (fun h => absurd h c27)
  refine b_iload_n X d_M_symbol_34 2 rfl rfl ?_
  refine b_bipush X (v := (-16)) d_M_symbol_35 (by decide) ?_
  refine b_icmp_lt X (tgt := 46) d_M_symbol_37 (by decide) (fun _ => ?_) (fun h => absurd c37 h)
  refine b_iconst X (v := 2) d_M_symbol_46 (by decide) ?_
  refine b_goto X (tgt := 74) d_M_symbol_47 (by decide) ?_
  refine b_put X fl_M_73 pl_M_thrown 0 rfl rfl rfl (Nat.le_of_ble_eq_true rfl) (uWM_0_thrown G σ 2) d_M_symbol_74 ?_
  refine b_aload_n X d_M_symbol_77 0 rfl rfl ?_
  refine b_get X fl_M_73 0 rfl (v := .int 2) rfl d_M_symbol_78 ?_
  refine b_if_le X (tgt := 86) d_M_symbol_81 (by decide) (fun h => absurd h (by decide)) (fun _ => ?_)
  refine b_iconst X (v := 0) d_M_symbol_84 (by decide) ?_
  exact b_iret X d_M_symbol_85 ⟨rfl, rfl⟩
theorem ct_M_symbol_ftfttt (G : GG) (σ : St) (x1 : Int32) (x2 : Int32) (n13 : Nat) (n61 : Nat) (n107 : Nat) (c5 : ¬ (b2i (0 ≤ x1 ∧ x1 < xi σ 0 1)) = 0) (e13 : x1 = nI n13) (h13 : n13 < 16) (c27 : ¬ (b2i (0 ≤ x1 ∧ x1 < xi σ 0 1)) = 0) (c37 : ¬ x2 < (-16)) (c43 : x2 ≤ 31) (c51 : 0 ≤ ((xi σ 1 n13) - 1)) (e61 : ((8 * x1) + ((xi σ 1 n13) - 1)) = nI n61) (h61 : n61 < 128) (c66 : ¬ (xi σ 2 n61) = 8) (e107 : (((64 * x1) + (8 * ((xi σ 1 n13) - 1))) + (xi σ 2 n61)) = nI n107) (h107 : n107 < 1024) : Ct y_M_symbol c_M_symbol 4 (some .int) rm_M_symbol G [.ref (xa σ 0), .int x1, .int x2] (WM G σ) (eqp (some (.int (xi (wi (wi (wi σ 0 0 0) 3 n107 x2) 2 n61 ((xi σ 2 n61) + 1)) 2 n61))) (WM G (wi (wi (wi σ 0 0 0) 3 n107 x2) 2 n61 ((xi σ 2 n61) + 1)))) := by
  refine Ct.of (by decide +kernel) (Nat.le_of_ble_eq_true rfl) (fun K X => ?_)
  show Lb K G _ _ 4 0 [(0, .ref (xa σ 0)), (1, .int x1), (2, .int x2)] [] _ 0 0
  refine b_aload_n X d_M_symbol_0 0 rfl rfl ?_
  refine b_iload_n X d_M_symbol_1 1 rfl rfl ?_
  refine b_dV X cf_M_isThere ci_M_isThere ml_M_168 (ct_M_isThere G σ x1) 0 rfl rfl (As := [.int x1]) (rest := []) rfl (Nat.le_of_ble_eq_true rfl) ⟨Nat.le_of_ble_eq_true rfl, Nat.le_of_ble_eq_true rfl⟩ ⟨Nat.le_of_ble_eq_true rfl, Nat.le_of_ble_eq_true rfl⟩ rfl rfl d_M_symbol_2 ?_
  refine b_if_eq X (tgt := 19) d_M_symbol_5 (by decide) (fun h => absurd h c5) (fun _ => ?_)
  refine b_aload_n X d_M_symbol_8 0 rfl rfl ?_
  refine b_get X fl_M_7 0 rfl (v := .ref (xa σ 1)) rfl d_M_symbol_9 ?_
  refine b_iload_n X d_M_symbol_12 1 rfl rfl ?_
  refine b_iald X 1 rfl (by decide) n13 e13 h13 d_M_symbol_13 ?_
  refine b_iconst X (v := 1) d_M_symbol_14 (by decide) ?_
  refine b_isub X d_M_symbol_15 ?_
  refine b_goto X (tgt := 20) d_M_symbol_16 (by decide) ?_
  refine b_istore_n X (lv' := [(0, .ref (xa σ 0)), (1, .int x1), (2, .int x2), (3, .int ((xi σ 1 n13) - 1))]) d_M_symbol_20 rfl (by decide) [1, 2, 3, 0] rfl ?_
  refine b_aload_n X d_M_symbol_21 0 rfl rfl ?_
  refine b_aload_n X d_M_symbol_22 0 rfl rfl ?_
  refine b_iload_n X d_M_symbol_23 1 rfl rfl ?_
  refine b_dV X cf_M_isThere ci_M_isThere ml_M_168 (ct_M_isThere G σ x1) 0 rfl rfl (As := [.int x1]) (rest := [.ref (xa σ 0)]) rfl (Nat.le_of_ble_eq_true rfl) ⟨Nat.le_of_ble_eq_true rfl, Nat.le_of_ble_eq_true rfl⟩ ⟨Nat.le_of_ble_eq_true rfl, Nat.le_of_ble_eq_true rfl⟩ rfl rfl d_M_symbol_24 ?_
  refine b_if_ne X (tgt := 34) d_M_symbol_27 (by decide) (fun _ => ?_) (fun h => absurd h c27)
  refine b_iload_n X d_M_symbol_34 2 rfl rfl ?_
  refine b_bipush X (v := (-16)) d_M_symbol_35 (by decide) ?_
  refine b_icmp_lt X (tgt := 46) d_M_symbol_37 (by decide) (fun h => absurd h c37) (fun _ => ?_)
  refine b_iload_n X d_M_symbol_40 2 rfl rfl ?_
  refine b_bipush X (v := 31) d_M_symbol_41 (by decide) ?_
  refine b_icmp_le X (tgt := 50) d_M_symbol_43 (by decide) (fun _ => ?_) (fun h => absurd c43 h)
  refine b_iload_n X d_M_symbol_50 3 rfl rfl ?_
  refine b_if_ge X (tgt := 58) d_M_symbol_51 (by decide) (fun _ => ?_) (fun h => absurd c51 h)
  refine b_aload_n X d_M_symbol_58 0 rfl rfl ?_
  refine b_iload_n X d_M_symbol_59 1 rfl rfl ?_
  refine b_iload_n X d_M_symbol_60 3 rfl rfl ?_
  refine b_dV X cf_M_sizeOf ci_M_sizeOf ml_M_77 (ct_M_sizeOf_ G σ x1 ((xi σ 1 n13) - 1) n61 e61 h61) 0 rfl rfl (As := [.int x1, .int ((xi σ 1 n13) - 1)]) (rest := [.ref (xa σ 0)]) rfl (Nat.le_of_ble_eq_true rfl) ⟨Nat.le_of_ble_eq_true rfl, Nat.le_of_ble_eq_true rfl⟩ ⟨Nat.le_of_ble_eq_true rfl, Nat.le_of_ble_eq_true rfl⟩ rfl rfl d_M_symbol_61 ?_
  refine b_bipush X (v := 8) d_M_symbol_64 (by decide) ?_
  refine b_icmp_ne X (tgt := 73) d_M_symbol_66 (by decide) (fun _ => ?_) (fun h => absurd h c66)
  refine b_iconst X (v := 0) d_M_symbol_73 (by decide) ?_
  refine b_put X fl_M_73 pl_M_thrown 0 rfl rfl rfl (Nat.le_of_ble_eq_true rfl) (uWM_0_thrown G σ 0) d_M_symbol_74 ?_
  refine b_aload_n X d_M_symbol_77 0 rfl rfl ?_
  refine b_get X fl_M_73 0 rfl (v := .int 0) rfl d_M_symbol_78 ?_
  refine b_if_le X (tgt := 86) d_M_symbol_81 (by decide) (fun _ => ?_) (fun h => absurd h (by decide))
  refine b_aload_n X d_M_symbol_86 0 rfl rfl ?_
  refine b_get X fl_M_16 0 rfl (v := .ref (xa σ 3)) rfl d_M_symbol_87 ?_
  refine b_bipush X (v := 64) d_M_symbol_90 (by decide) ?_
  refine b_iload_n X d_M_symbol_92 1 rfl rfl ?_
  refine b_imul X d_M_symbol_93 ?_
  refine b_bipush X (v := 8) d_M_symbol_94 (by decide) ?_
  refine b_iload_n X d_M_symbol_96 3 rfl rfl ?_
  refine b_imul X d_M_symbol_97 ?_
  refine b_iadd X d_M_symbol_98 ?_
  refine b_aload_n X d_M_symbol_99 0 rfl rfl ?_
  refine b_iload_n X d_M_symbol_100 1 rfl rfl ?_
  refine b_iload_n X d_M_symbol_101 3 rfl rfl ?_
  refine b_dV X cf_M_sizeOf ci_M_sizeOf ml_M_77 (ct_M_sizeOf_ G (wi σ 0 0 0) x1 ((xi σ 1 n13) - 1) n61 e61 h61) 0 rfl rfl (As := [.int x1, .int ((xi σ 1 n13) - 1)]) (rest := [.int ((64 * x1) + (8 * ((xi σ 1 n13) - 1))), .ref (xa σ 3)]) rfl (Nat.le_of_ble_eq_true rfl) ⟨Nat.le_of_ble_eq_true rfl, Nat.le_of_ble_eq_true rfl⟩ ⟨Nat.le_of_ble_eq_true rfl, Nat.le_of_ble_eq_true rfl⟩ rfl rfl d_M_symbol_102 ?_
  refine b_iadd X d_M_symbol_105 ?_
  refine b_iload_n X d_M_symbol_106 2 rfl rfl ?_
  refine b_iast X 3 rfl (by decide) n107 e107 h107 (uWM_3 G (wi σ 0 0 0) n107 x2) d_M_symbol_107 ?_
  refine b_aload_n X d_M_symbol_108 0 rfl rfl ?_
  refine b_get X fl_M_13 0 rfl (v := .ref (xa σ 2)) rfl d_M_symbol_109 ?_
  refine b_bipush X (v := 8) d_M_symbol_112 (by decide) ?_
  refine b_iload_n X d_M_symbol_114 1 rfl rfl ?_
  refine b_imul X d_M_symbol_115 ?_
  refine b_iload_n X d_M_symbol_116 3 rfl rfl ?_
  refine b_iadd X d_M_symbol_117 ?_
  refine b_dup2 X d_M_symbol_118 rfl rfl ?_
  refine b_iald X 2 rfl (by decide) n61 e61 h61 d_M_symbol_119 ?_
  refine b_iconst X (v := 1) d_M_symbol_120 (by decide) ?_
  refine b_iadd X d_M_symbol_121 ?_
  refine b_iast X 2 rfl (by decide) n61 e61 h61 (uWM_2 G (wi (wi σ 0 0 0) 3 n107 x2) n61 ((xi σ 2 n61) + 1)) d_M_symbol_122 ?_
  refine b_aload_n X d_M_symbol_123 0 rfl rfl ?_
  refine b_iload_n X d_M_symbol_124 1 rfl rfl ?_
  refine b_iload_n X d_M_symbol_125 3 rfl rfl ?_
  refine b_dV X cf_M_sizeOf ci_M_sizeOf ml_M_77 (ct_M_sizeOf_ G (wi (wi (wi σ 0 0 0) 3 n107 x2) 2 n61 ((xi σ 2 n61) + 1)) x1 ((xi σ 1 n13) - 1) n61 e61 h61) 0 rfl rfl (As := [.int x1, .int ((xi σ 1 n13) - 1)]) (rest := []) rfl (Nat.le_of_ble_eq_true rfl) ⟨Nat.le_of_ble_eq_true rfl, Nat.le_of_ble_eq_true rfl⟩ ⟨Nat.le_of_ble_eq_true rfl, Nat.le_of_ble_eq_true rfl⟩ rfl rfl d_M_symbol_126 ?_
  exact b_iret X d_M_symbol_129 ⟨rfl, rfl⟩
theorem ct_M_symbol_ftfttf (G : GG) (σ : St) (x1 : Int32) (x2 : Int32) (n13 : Nat) (n61 : Nat) (c5 : ¬ (b2i (0 ≤ x1 ∧ x1 < xi σ 0 1)) = 0) (e13 : x1 = nI n13) (h13 : n13 < 16) (c27 : ¬ (b2i (0 ≤ x1 ∧ x1 < xi σ 0 1)) = 0) (c37 : ¬ x2 < (-16)) (c43 : x2 ≤ 31) (c51 : 0 ≤ ((xi σ 1 n13) - 1)) (e61 : ((8 * x1) + ((xi σ 1 n13) - 1)) = nI n61) (h61 : n61 < 128) (c66 : (xi σ 2 n61) = 8) : Ct y_M_symbol c_M_symbol 4 (some .int) rm_M_symbol G [.ref (xa σ 0), .int x1, .int x2] (WM G σ) (eqp (some (.int 0)) (WM G (wi σ 0 0 4))) := by
  refine Ct.of (by decide +kernel) (Nat.le_of_ble_eq_true rfl) (fun K X => ?_)
  show Lb K G _ _ 4 0 [(0, .ref (xa σ 0)), (1, .int x1), (2, .int x2)] [] _ 0 0
  refine b_aload_n X d_M_symbol_0 0 rfl rfl ?_
  refine b_iload_n X d_M_symbol_1 1 rfl rfl ?_
  refine b_dV X cf_M_isThere ci_M_isThere ml_M_168 (ct_M_isThere G σ x1) 0 rfl rfl (As := [.int x1]) (rest := []) rfl (Nat.le_of_ble_eq_true rfl) ⟨Nat.le_of_ble_eq_true rfl, Nat.le_of_ble_eq_true rfl⟩ ⟨Nat.le_of_ble_eq_true rfl, Nat.le_of_ble_eq_true rfl⟩ rfl rfl d_M_symbol_2 ?_
  refine b_if_eq X (tgt := 19) d_M_symbol_5 (by decide) (fun h => absurd h c5) (fun _ => ?_)
  refine b_aload_n X d_M_symbol_8 0 rfl rfl ?_
  refine b_get X fl_M_7 0 rfl (v := .ref (xa σ 1)) rfl d_M_symbol_9 ?_
  refine b_iload_n X d_M_symbol_12 1 rfl rfl ?_
  refine b_iald X 1 rfl (by decide) n13 e13 h13 d_M_symbol_13 ?_
  refine b_iconst X (v := 1) d_M_symbol_14 (by decide) ?_
  refine b_isub X d_M_symbol_15 ?_
  refine b_goto X (tgt := 20) d_M_symbol_16 (by decide) ?_
  refine b_istore_n X (lv' := [(0, .ref (xa σ 0)), (1, .int x1), (2, .int x2), (3, .int ((xi σ 1 n13) - 1))]) d_M_symbol_20 rfl (by decide) [1, 2, 3, 0] rfl ?_
  refine b_aload_n X d_M_symbol_21 0 rfl rfl ?_
  refine b_aload_n X d_M_symbol_22 0 rfl rfl ?_
  refine b_iload_n X d_M_symbol_23 1 rfl rfl ?_
  refine b_dV X cf_M_isThere ci_M_isThere ml_M_168 (ct_M_isThere G σ x1) 0 rfl rfl (As := [.int x1]) (rest := [.ref (xa σ 0)]) rfl (Nat.le_of_ble_eq_true rfl) ⟨Nat.le_of_ble_eq_true rfl, Nat.le_of_ble_eq_true rfl⟩ ⟨Nat.le_of_ble_eq_true rfl, Nat.le_of_ble_eq_true rfl⟩ rfl rfl d_M_symbol_24 ?_
  refine b_if_ne X (tgt := 34) d_M_symbol_27 (by decide) (fun _ => ?_) (fun h => absurd h c27)
  refine b_iload_n X d_M_symbol_34 2 rfl rfl ?_
  refine b_bipush X (v := (-16)) d_M_symbol_35 (by decide) ?_
  refine b_icmp_lt X (tgt := 46) d_M_symbol_37 (by decide) (fun h => absurd h c37) (fun _ => ?_)
  refine b_iload_n X d_M_symbol_40 2 rfl rfl ?_
  refine b_bipush X (v := 31) d_M_symbol_41 (by decide) ?_
  refine b_icmp_le X (tgt := 50) d_M_symbol_43 (by decide) (fun _ => ?_) (fun h => absurd c43 h)
  refine b_iload_n X d_M_symbol_50 3 rfl rfl ?_
  refine b_if_ge X (tgt := 58) d_M_symbol_51 (by decide) (fun _ => ?_) (fun h => absurd c51 h)
  refine b_aload_n X d_M_symbol_58 0 rfl rfl ?_
  refine b_iload_n X d_M_symbol_59 1 rfl rfl ?_
  refine b_iload_n X d_M_symbol_60 3 rfl rfl ?_
  refine b_dV X cf_M_sizeOf ci_M_sizeOf ml_M_77 (ct_M_sizeOf_ G σ x1 ((xi σ 1 n13) - 1) n61 e61 h61) 0 rfl rfl (As := [.int x1, .int ((xi σ 1 n13) - 1)]) (rest := [.ref (xa σ 0)]) rfl (Nat.le_of_ble_eq_true rfl) ⟨Nat.le_of_ble_eq_true rfl, Nat.le_of_ble_eq_true rfl⟩ ⟨Nat.le_of_ble_eq_true rfl, Nat.le_of_ble_eq_true rfl⟩ rfl rfl d_M_symbol_61 ?_
  refine b_bipush X (v := 8) d_M_symbol_64 (by decide) ?_
  refine b_icmp_ne X (tgt := 73) d_M_symbol_66 (by decide) (fun h => absurd c66 h) (fun _ => ?_)
  refine b_iconst X (v := 4) d_M_symbol_69 (by decide) ?_
  refine b_goto X (tgt := 74) d_M_symbol_70 (by decide) ?_
  refine b_put X fl_M_73 pl_M_thrown 0 rfl rfl rfl (Nat.le_of_ble_eq_true rfl) (uWM_0_thrown G σ 4) d_M_symbol_74 ?_
  refine b_aload_n X d_M_symbol_77 0 rfl rfl ?_
  refine b_get X fl_M_73 0 rfl (v := .int 4) rfl d_M_symbol_78 ?_
  refine b_if_le X (tgt := 86) d_M_symbol_81 (by decide) (fun h => absurd h (by decide)) (fun _ => ?_)
  refine b_iconst X (v := 0) d_M_symbol_84 (by decide) ?_
  exact b_iret X d_M_symbol_85 ⟨rfl, rfl⟩
theorem ct_M_symbol_ftftf (G : GG) (σ : St) (x1 : Int32) (x2 : Int32) (n13 : Nat) (c5 : ¬ (b2i (0 ≤ x1 ∧ x1 < xi σ 0 1)) = 0) (e13 : x1 = nI n13) (h13 : n13 < 16) (c27 : ¬ (b2i (0 ≤ x1 ∧ x1 < xi σ 0 1)) = 0) (c37 : ¬ x2 < (-16)) (c43 : x2 ≤ 31) (c51 : ¬ 0 ≤ ((xi σ 1 n13) - 1)) : Ct y_M_symbol c_M_symbol 4 (some .int) rm_M_symbol G [.ref (xa σ 0), .int x1, .int x2] (WM G σ) (eqp (some (.int 0)) (WM G (wi σ 0 0 3))) := by
  refine Ct.of (by decide +kernel) (Nat.le_of_ble_eq_true rfl) (fun K X => ?_)
  show Lb K G _ _ 4 0 [(0, .ref (xa σ 0)), (1, .int x1), (2, .int x2)] [] _ 0 0
  refine b_aload_n X d_M_symbol_0 0 rfl rfl ?_
  refine b_iload_n X d_M_symbol_1 1 rfl rfl ?_
  refine b_dV X cf_M_isThere ci_M_isThere ml_M_168 (ct_M_isThere G σ x1) 0 rfl rfl (As := [.int x1]) (rest := []) rfl (Nat.le_of_ble_eq_true rfl) ⟨Nat.le_of_ble_eq_true rfl, Nat.le_of_ble_eq_true rfl⟩ ⟨Nat.le_of_ble_eq_true rfl, Nat.le_of_ble_eq_true rfl⟩ rfl rfl d_M_symbol_2 ?_
  refine b_if_eq X (tgt := 19) d_M_symbol_5 (by decide) (fun h => absurd h c5) (fun _ => ?_)
  refine b_aload_n X d_M_symbol_8 0 rfl rfl ?_
  refine b_get X fl_M_7 0 rfl (v := .ref (xa σ 1)) rfl d_M_symbol_9 ?_
  refine b_iload_n X d_M_symbol_12 1 rfl rfl ?_
  refine b_iald X 1 rfl (by decide) n13 e13 h13 d_M_symbol_13 ?_
  refine b_iconst X (v := 1) d_M_symbol_14 (by decide) ?_
  refine b_isub X d_M_symbol_15 ?_
  refine b_goto X (tgt := 20) d_M_symbol_16 (by decide) ?_
  refine b_istore_n X (lv' := [(0, .ref (xa σ 0)), (1, .int x1), (2, .int x2), (3, .int ((xi σ 1 n13) - 1))]) d_M_symbol_20 rfl (by decide) [1, 2, 3, 0] rfl ?_
  refine b_aload_n X d_M_symbol_21 0 rfl rfl ?_
  refine b_aload_n X d_M_symbol_22 0 rfl rfl ?_
  refine b_iload_n X d_M_symbol_23 1 rfl rfl ?_
  refine b_dV X cf_M_isThere ci_M_isThere ml_M_168 (ct_M_isThere G σ x1) 0 rfl rfl (As := [.int x1]) (rest := [.ref (xa σ 0)]) rfl (Nat.le_of_ble_eq_true rfl) ⟨Nat.le_of_ble_eq_true rfl, Nat.le_of_ble_eq_true rfl⟩ ⟨Nat.le_of_ble_eq_true rfl, Nat.le_of_ble_eq_true rfl⟩ rfl rfl d_M_symbol_24 ?_
  refine b_if_ne X (tgt := 34) d_M_symbol_27 (by decide) (fun _ => ?_) (fun h => absurd h c27)
  refine b_iload_n X d_M_symbol_34 2 rfl rfl ?_
  refine b_bipush X (v := (-16)) d_M_symbol_35 (by decide) ?_
  refine b_icmp_lt X (tgt := 46) d_M_symbol_37 (by decide) (fun h => absurd h c37) (fun _ => ?_)
  refine b_iload_n X d_M_symbol_40 2 rfl rfl ?_
  refine b_bipush X (v := 31) d_M_symbol_41 (by decide) ?_
  refine b_icmp_le X (tgt := 50) d_M_symbol_43 (by decide) (fun _ => ?_) (fun h => absurd c43 h)
  refine b_iload_n X d_M_symbol_50 3 rfl rfl ?_
  refine b_if_ge X (tgt := 58) d_M_symbol_51 (by decide) (fun h => absurd h c51) (fun _ => ?_)
  refine b_iconst X (v := 3) d_M_symbol_54 (by decide) ?_
  refine b_goto X (tgt := 74) d_M_symbol_55 (by decide) ?_
  refine b_put X fl_M_73 pl_M_thrown 0 rfl rfl rfl (Nat.le_of_ble_eq_true rfl) (uWM_0_thrown G σ 3) d_M_symbol_74 ?_
  refine b_aload_n X d_M_symbol_77 0 rfl rfl ?_
  refine b_get X fl_M_73 0 rfl (v := .int 3) rfl d_M_symbol_78 ?_
  refine b_if_le X (tgt := 86) d_M_symbol_81 (by decide) (fun h => absurd h (by decide)) (fun _ => ?_)
  refine b_iconst X (v := 0) d_M_symbol_84 (by decide) ?_
  exact b_iret X d_M_symbol_85 ⟨rfl, rfl⟩
theorem ct_M_symbol_ftff (G : GG) (σ : St) (x1 : Int32) (x2 : Int32) (n13 : Nat) (c5 : ¬ (b2i (0 ≤ x1 ∧ x1 < xi σ 0 1)) = 0) (e13 : x1 = nI n13) (h13 : n13 < 16) (c27 : ¬ (b2i (0 ≤ x1 ∧ x1 < xi σ 0 1)) = 0) (c37 : ¬ x2 < (-16)) (c43 : ¬ x2 ≤ 31) : Ct y_M_symbol c_M_symbol 4 (some .int) rm_M_symbol G [.ref (xa σ 0), .int x1, .int x2] (WM G σ) (eqp (some (.int 0)) (WM G (wi σ 0 0 2))) := by
  refine Ct.of (by decide +kernel) (Nat.le_of_ble_eq_true rfl) (fun K X => ?_)
  show Lb K G _ _ 4 0 [(0, .ref (xa σ 0)), (1, .int x1), (2, .int x2)] [] _ 0 0
  refine b_aload_n X d_M_symbol_0 0 rfl rfl ?_
  refine b_iload_n X d_M_symbol_1 1 rfl rfl ?_
  refine b_dV X cf_M_isThere ci_M_isThere ml_M_168 (ct_M_isThere G σ x1) 0 rfl rfl (As := [.int x1]) (rest := []) rfl (Nat.le_of_ble_eq_true rfl) ⟨Nat.le_of_ble_eq_true rfl, Nat.le_of_ble_eq_true rfl⟩ ⟨Nat.le_of_ble_eq_true rfl, Nat.le_of_ble_eq_true rfl⟩ rfl rfl d_M_symbol_2 ?_
  refine b_if_eq X (tgt := 19) d_M_symbol_5 (by decide) (fun h => absurd h c5) (fun _ => ?_)
  refine b_aload_n X d_M_symbol_8 0 rfl rfl ?_
  refine b_get X fl_M_7 0 rfl (v := .ref (xa σ 1)) rfl d_M_symbol_9 ?_
  refine b_iload_n X d_M_symbol_12 1 rfl rfl ?_
  refine b_iald X 1 rfl (by decide) n13 e13 h13 d_M_symbol_13 ?_
  refine b_iconst X (v := 1) d_M_symbol_14 (by decide) ?_
  refine b_isub X d_M_symbol_15 ?_
  refine b_goto X (tgt := 20) d_M_symbol_16 (by decide) ?_
  refine b_istore_n X (lv' := [(0, .ref (xa σ 0)), (1, .int x1), (2, .int x2), (3, .int ((xi σ 1 n13) - 1))]) d_M_symbol_20 rfl (by decide) [1, 2, 3, 0] rfl ?_
  refine b_aload_n X d_M_symbol_21 0 rfl rfl ?_
  refine b_aload_n X d_M_symbol_22 0 rfl rfl ?_
  refine b_iload_n X d_M_symbol_23 1 rfl rfl ?_
  refine b_dV X cf_M_isThere ci_M_isThere ml_M_168 (ct_M_isThere G σ x1) 0 rfl rfl (As := [.int x1]) (rest := [.ref (xa σ 0)]) rfl (Nat.le_of_ble_eq_true rfl) ⟨Nat.le_of_ble_eq_true rfl, Nat.le_of_ble_eq_true rfl⟩ ⟨Nat.le_of_ble_eq_true rfl, Nat.le_of_ble_eq_true rfl⟩ rfl rfl d_M_symbol_24 ?_
  refine b_if_ne X (tgt := 34) d_M_symbol_27 (by decide) (fun _ => ?_) (fun h => absurd h c27)
  refine b_iload_n X d_M_symbol_34 2 rfl rfl ?_
  refine b_bipush X (v := (-16)) d_M_symbol_35 (by decide) ?_
  refine b_icmp_lt X (tgt := 46) d_M_symbol_37 (by decide) (fun h => absurd h c37) (fun _ => ?_)
  refine b_iload_n X d_M_symbol_40 2 rfl rfl ?_
  refine b_bipush X (v := 31) d_M_symbol_41 (by decide) ?_
  refine b_icmp_le X (tgt := 50) d_M_symbol_43 (by decide) (fun h => absurd h c43) (fun _ => ?_)
  refine b_iconst X (v := 2) d_M_symbol_46 (by decide) ?_
  refine b_goto X (tgt := 74) d_M_symbol_47 (by decide) ?_
  refine b_put X fl_M_73 pl_M_thrown 0 rfl rfl rfl (Nat.le_of_ble_eq_true rfl) (uWM_0_thrown G σ 2) d_M_symbol_74 ?_
  refine b_aload_n X d_M_symbol_77 0 rfl rfl ?_
  refine b_get X fl_M_73 0 rfl (v := .int 2) rfl d_M_symbol_78 ?_
  refine b_if_le X (tgt := 86) d_M_symbol_81 (by decide) (fun h => absurd h (by decide)) (fun _ => ?_)
  refine b_iconst X (v := 0) d_M_symbol_84 (by decide) ?_
  exact b_iret X d_M_symbol_85 ⟨rfl, rfl⟩
theorem ct_M_symbol_ff (G : GG) (σ : St) (x1 : Int32) (x2 : Int32) (n13 : Nat) (c5 : ¬ (b2i (0 ≤ x1 ∧ x1 < xi σ 0 1)) = 0) (e13 : x1 = nI n13) (h13 : n13 < 16) (c27 : (b2i (0 ≤ x1 ∧ x1 < xi σ 0 1)) = 0) : Ct y_M_symbol c_M_symbol 4 (some .int) rm_M_symbol G [.ref (xa σ 0), .int x1, .int x2] (WM G σ) (eqp (some (.int 0)) (WM G (wi σ 0 0 1))) := by
  refine Ct.of (by decide +kernel) (Nat.le_of_ble_eq_true rfl) (fun K X => ?_)
  show Lb K G _ _ 4 0 [(0, .ref (xa σ 0)), (1, .int x1), (2, .int x2)] [] _ 0 0
  refine b_aload_n X d_M_symbol_0 0 rfl rfl ?_
  refine b_iload_n X d_M_symbol_1 1 rfl rfl ?_
  refine b_dV X cf_M_isThere ci_M_isThere ml_M_168 (ct_M_isThere G σ x1) 0 rfl rfl (As := [.int x1]) (rest := []) rfl (Nat.le_of_ble_eq_true rfl) ⟨Nat.le_of_ble_eq_true rfl, Nat.le_of_ble_eq_true rfl⟩ ⟨Nat.le_of_ble_eq_true rfl, Nat.le_of_ble_eq_true rfl⟩ rfl rfl d_M_symbol_2 ?_
  refine b_if_eq X (tgt := 19) d_M_symbol_5 (by decide) (fun h => absurd h c5) (fun _ => ?_)
  refine b_aload_n X d_M_symbol_8 0 rfl rfl ?_
  refine b_get X fl_M_7 0 rfl (v := .ref (xa σ 1)) rfl d_M_symbol_9 ?_
  refine b_iload_n X d_M_symbol_12 1 rfl rfl ?_
  refine b_iald X 1 rfl (by decide) n13 e13 h13 d_M_symbol_13 ?_
  refine b_iconst X (v := 1) d_M_symbol_14 (by decide) ?_
  refine b_isub X d_M_symbol_15 ?_
  refine b_goto X (tgt := 20) d_M_symbol_16 (by decide) ?_
  refine b_istore_n X (lv' := [(0, .ref (xa σ 0)), (1, .int x1), (2, .int x2), (3, .int ((xi σ 1 n13) - 1))]) d_M_symbol_20 rfl (by decide) [1, 2, 3, 0] rfl ?_
  refine b_aload_n X d_M_symbol_21 0 rfl rfl ?_
  refine b_aload_n X d_M_symbol_22 0 rfl rfl ?_
  refine b_iload_n X d_M_symbol_23 1 rfl rfl ?_
  refine b_dV X cf_M_isThere ci_M_isThere ml_M_168 (ct_M_isThere G σ x1) 0 rfl rfl (As := [.int x1]) (rest := [.ref (xa σ 0)]) rfl (Nat.le_of_ble_eq_true rfl) ⟨Nat.le_of_ble_eq_true rfl, Nat.le_of_ble_eq_true rfl⟩ ⟨Nat.le_of_ble_eq_true rfl, Nat.le_of_ble_eq_true rfl⟩ rfl rfl d_M_symbol_24 ?_
  refine b_if_ne X (tgt := 34) d_M_symbol_27 (by decide) (fun h => absurd c27 h) (fun _ => ?_)
  refine b_iconst X (v := 1) d_M_symbol_30 (by decide) ?_
  refine b_goto X (tgt := 74) d_M_symbol_31 (by decide) ?_
  refine b_put X fl_M_73 pl_M_thrown 0 rfl rfl rfl (Nat.le_of_ble_eq_true rfl) (uWM_0_thrown G σ 1) d_M_symbol_74 ?_
  refine b_aload_n X d_M_symbol_77 0 rfl rfl ?_
  refine b_get X fl_M_73 0 rfl (v := .int 1) rfl d_M_symbol_78 ?_
  refine b_if_le X (tgt := 86) d_M_symbol_81 (by decide) (fun h => absurd h (by decide)) (fun _ => ?_)
  refine b_iconst X (v := 0) d_M_symbol_84 (by decide) ?_
  exact b_iret X d_M_symbol_85 ⟨rfl, rfl⟩
theorem ct_M_clear_ (G : GG) (σ : St)    : Ct y_M_clear c_M_clear 2 (some .int) rm_M_clear G [.ref (xa σ 0)] (WM G σ) (eqp (some (.int (xi σ 0 1))) (WM G (wi (wi σ 0 0 0) 0 1 0))) := by
  refine Ct.of (by decide +kernel) (Nat.le_of_ble_eq_true rfl) (fun K X => ?_)
  show Lb K G _ _ 2 0 [(0, .ref (xa σ 0))] [] _ 0 0
  refine b_aload_n X d_M_clear_0 0 rfl rfl ?_
  refine b_iconst X (v := 0) d_M_clear_1 (by decide) ?_
  refine b_put X fl_M_73 pl_M_thrown 0 rfl rfl rfl (Nat.le_of_ble_eq_true rfl) (uWM_0_thrown G σ 0) d_M_clear_2 ?_
  refine b_aload_n X d_M_clear_5 0 rfl rfl ?_
  refine b_get X fl_M_89 0 rfl (v := .int (xi σ 0 1)) rfl d_M_clear_6 ?_
  refine b_istore_n X (lv' := [(0, .ref (xa σ 0)), (1, .int (xi σ 0 1))]) d_M_clear_9 rfl (by decide) [1, 0] rfl ?_
  refine b_aload_n X d_M_clear_10 0 rfl rfl ?_
  refine b_iconst X (v := 0) d_M_clear_11 (by decide) ?_
  refine b_put X fl_M_89 pl_M_rules 0 rfl rfl rfl (Nat.le_of_ble_eq_true rfl) (uWM_0_rules G (wi σ 0 0 0) 0) d_M_clear_12 ?_
  refine b_iload_n X d_M_clear_15 1 rfl rfl ?_
  exact b_iret X d_M_clear_16 ⟨rfl, rfl⟩
theorem ct_M_fault_ (G : GG) (σ : St)  (r6 : Int32) (q6 : Sq) (t6 : Ct y_M_faultOf c_M_faultOf 4 (some .int) rm_M_faultOf G [.ref (xa σ 0)] (WM G (wi σ 0 0 0)) (eqp (some (.int r6)) (WM G (xa σ, q6)))) : Ct y_M_fault c_M_fault 1 (some .int) rm_M_fault G [.ref (xa σ 0)] (WM G σ) (eqp (some (.int r6)) (WM G (xa σ, q6))) := by
  refine Ct.of (by decide +kernel) (Nat.le_of_ble_eq_true rfl) (fun K X => ?_)
  show Lb K G _ _ 1 0 [(0, .ref (xa σ 0))] [] _ 0 0
  refine b_aload_n X d_M_fault_0 0 rfl rfl ?_
  refine b_iconst X (v := 0) d_M_fault_1 (by decide) ?_
  refine b_put X fl_M_73 pl_M_thrown 0 rfl rfl rfl (Nat.le_of_ble_eq_true rfl) (uWM_0_thrown G σ 0) d_M_fault_2 ?_
  refine b_aload_n X d_M_fault_5 0 rfl rfl ?_
  refine b_dV X cf_M_faultOf ci_M_faultOf ml_M_151 t6 0 rfl rfl (As := []) (rest := []) rfl (Nat.le_of_ble_eq_true rfl) ⟨Nat.le_of_ble_eq_true rfl, Nat.le_of_ble_eq_true rfl⟩ ⟨Nat.le_of_ble_eq_true rfl, Nat.le_of_ble_eq_true rfl⟩ rfl rfl d_M_fault_6 ?_
  exact b_iret X d_M_fault_9 ⟨rfl, rfl⟩
theorem ct_M_faulty_t (G : GG) (σ : St)  (r6 : Int32) (q6 : Sq) (t6 : Ct y_M_faultOf c_M_faultOf 4 (some .int) rm_M_faultOf G [.ref (xa σ 0)] (WM G (wi σ 0 0 0)) (eqp (some (.int r6)) (WM G (xa σ, q6)))) (c10 : r6 ≤ 1) : Ct y_M_faulty c_M_faulty 1 (some .int) rm_M_faulty G [.ref (xa σ 0)] (WM G σ) (eqp (some (.int (-1))) (WM G (xa σ, q6))) := by
  refine Ct.of (by decide +kernel) (Nat.le_of_ble_eq_true rfl) (fun K X => ?_)
  show Lb K G _ _ 1 0 [(0, .ref (xa σ 0))] [] _ 0 0
  refine b_aload_n X d_M_faulty_0 0 rfl rfl ?_
  refine b_iconst X (v := 0) d_M_faulty_1 (by decide) ?_
  refine b_put X fl_M_73 pl_M_thrown 0 rfl rfl rfl (Nat.le_of_ble_eq_true rfl) (uWM_0_thrown G σ 0) d_M_faulty_2 ?_
  refine b_aload_n X d_M_faulty_5 0 rfl rfl ?_
  refine b_dV X cf_M_faultOf ci_M_faultOf ml_M_151 t6 0 rfl rfl (As := []) (rest := []) rfl (Nat.le_of_ble_eq_true rfl) ⟨Nat.le_of_ble_eq_true rfl, Nat.le_of_ble_eq_true rfl⟩ ⟨Nat.le_of_ble_eq_true rfl, Nat.le_of_ble_eq_true rfl⟩ rfl rfl d_M_faulty_6 ?_
  refine b_iconst X (v := 1) d_M_faulty_9 (by decide) ?_
  refine b_icmp_le X (tgt := 20) d_M_faulty_10 (by decide) (fun _ => ?_) (fun h => absurd c10 h)
  refine b_iconst X (v := (-1)) d_M_faulty_20 (by decide) ?_
  exact b_iret X d_M_faulty_21 ⟨rfl, rfl⟩
theorem ct_M_faulty_f (G : GG) (σ : St)  (r6 : Int32) (q6 : Sq) (t6 : Ct y_M_faultOf c_M_faultOf 4 (some .int) rm_M_faultOf G [.ref (xa σ 0)] (WM G (wi σ 0 0 0)) (eqp (some (.int r6)) (WM G (xa σ, q6)))) (c10 : ¬ r6 ≤ 1) : Ct y_M_faulty c_M_faulty 1 (some .int) rm_M_faulty G [.ref (xa σ 0)] (WM G σ) (eqp (some (.int (xi (xa σ, q6) 0 2))) (WM G (xa σ, q6))) := by
  refine Ct.of (by decide +kernel) (Nat.le_of_ble_eq_true rfl) (fun K X => ?_)
  show Lb K G _ _ 1 0 [(0, .ref (xa σ 0))] [] _ 0 0
  refine b_aload_n X d_M_faulty_0 0 rfl rfl ?_
  refine b_iconst X (v := 0) d_M_faulty_1 (by decide) ?_
  refine b_put X fl_M_73 pl_M_thrown 0 rfl rfl rfl (Nat.le_of_ble_eq_true rfl) (uWM_0_thrown G σ 0) d_M_faulty_2 ?_
  refine b_aload_n X d_M_faulty_5 0 rfl rfl ?_
  refine b_dV X cf_M_faultOf ci_M_faultOf ml_M_151 t6 0 rfl rfl (As := []) (rest := []) rfl (Nat.le_of_ble_eq_true rfl) ⟨Nat.le_of_ble_eq_true rfl, Nat.le_of_ble_eq_true rfl⟩ ⟨Nat.le_of_ble_eq_true rfl, Nat.le_of_ble_eq_true rfl⟩ rfl rfl d_M_faulty_6 ?_
  refine b_iconst X (v := 1) d_M_faulty_9 (by decide) ?_
  refine b_icmp_le X (tgt := 20) d_M_faulty_10 (by decide) (fun h => absurd h c10) (fun _ => ?_)
  refine b_aload_n X d_M_faulty_13 0 rfl rfl ?_
  refine b_get X fl_M_96 0 rfl (v := .int (xi (xa σ, q6) 0 2)) rfl d_M_faulty_14 ?_
  refine b_goto X (tgt := 21) d_M_faulty_17 (by decide) ?_
  exact b_iret X d_M_faulty_21 ⟨rfl, rfl⟩
theorem ct_M_token_t (G : GG) (σ : St) (x1 : Int32)  (c2 : x1 < 0) : Ct y_M_token c_M_token 2 (some .int) rm_M_token G [.ref (xa σ 0), .int x1] (WM G σ) (eqp (some (.int 0)) (WM G (wi σ 0 0 1))) := by
  refine Ct.of (by decide +kernel) (Nat.le_of_ble_eq_true rfl) (fun K X => ?_)
  show Lb K G _ _ 2 0 [(0, .ref (xa σ 0)), (1, .int x1)] [] _ 0 0
  refine b_aload_n X d_M_token_0 0 rfl rfl ?_
  refine b_iload_n X d_M_token_1 1 rfl rfl ?_
  refine b_if_lt X (tgt := 11) d_M_token_2 (by decide) (fun _ => ?_) (fun h => absurd c2 h)
  refine b_iconst X (v := 1) d_M_token_11 (by decide) ?_
  refine b_goto X (tgt := 29) d_M_token_12 (by decide) ?_
  refine b_put X fl_M_73 pl_M_thrown 0 rfl rfl rfl (Nat.le_of_ble_eq_true rfl) (uWM_0_thrown G σ 1) d_M_token_29 ?_
  refine b_aload_n X d_M_token_32 0 rfl rfl ?_
  refine b_get X fl_M_73 0 rfl (v := .int 1) rfl d_M_token_33 ?_
  refine b_if_le X (tgt := 41) d_M_token_36 (by decide) (fun h => absurd h (by decide)) (fun _ => ?_)
  refine b_iconst X (v := 0) d_M_token_39 (by decide) ?_
  exact b_iret X d_M_token_40 ⟨rfl, rfl⟩
theorem ct_M_token_ftt (G : GG) (σ : St) (x1 : Int32) (n50 : Nat) (c2 : ¬ x1 < 0) (c8 : x1 ≤ 31) (c21 : ¬ (xi σ 0 3) = 60) (e50 : (xi σ 0 3) = nI n50) (h50 : n50 < 60) : Ct y_M_token c_M_token 2 (some .int) rm_M_token G [.ref (xa σ 0), .int x1] (WM G σ) (eqp (some (.int ((xi σ 0 3) + 1))) (WM G (wi (wi (wi σ 0 0 0) 7 n50 x1) 0 3 ((xi σ 0 3) + 1)))) := by
  refine Ct.of (by decide +kernel) (Nat.le_of_ble_eq_true rfl) (fun K X => ?_)
  show Lb K G _ _ 2 0 [(0, .ref (xa σ 0)), (1, .int x1)] [] _ 0 0
  refine b_aload_n X d_M_token_0 0 rfl rfl ?_
  refine b_iload_n X d_M_token_1 1 rfl rfl ?_
  refine b_if_lt X (tgt := 11) d_M_token_2 (by decide) (fun h => absurd h c2) (fun _ => ?_)
  refine b_iload_n X d_M_token_5 1 rfl rfl ?_
  refine b_bipush X (v := 31) d_M_token_6 (by decide) ?_
  refine b_icmp_le X (tgt := 15) d_M_token_8 (by decide) (fun _ => ?_) (fun h => absurd c8 h)
  refine b_aload_n X d_M_token_15 0 rfl rfl ?_
  refine b_get X fl_M_105 0 rfl (v := .int (xi σ 0 3)) rfl d_M_token_16 ?_
  refine b_bipush X (v := 60) d_M_token_19 (by decide) ?_
  refine b_icmp_ne X (tgt := 28) d_M_token_21 (by decide) (fun _ => ?_) (fun h => absurd h c21)
  refine b_iconst X (v := 0) d_M_token_28 (by decide) ?_
  refine b_put X fl_M_73 pl_M_thrown 0 rfl rfl rfl (Nat.le_of_ble_eq_true rfl) (uWM_0_thrown G σ 0) d_M_token_29 ?_
  refine b_aload_n X d_M_token_32 0 rfl rfl ?_
  refine b_get X fl_M_73 0 rfl (v := .int 0) rfl d_M_token_33 ?_
  refine b_if_le X (tgt := 41) d_M_token_36 (by decide) (fun _ => ?_) (fun h => absurd h (by decide))
  refine b_aload_n X d_M_token_41 0 rfl rfl ?_
  refine b_get X fl_M_29 0 rfl (v := .ref (xa σ 7)) rfl d_M_token_42 ?_
  refine b_aload_n X d_M_token_45 0 rfl rfl ?_
  refine b_get X fl_M_105 0 rfl (v := .int (xi σ 0 3)) rfl d_M_token_46 ?_
  refine b_iload_n X d_M_token_49 1 rfl rfl ?_
  refine b_iast X 7 rfl (by decide) n50 e50 h50 (uWM_7 G (wi σ 0 0 0) n50 x1) d_M_token_50 ?_
  refine b_aload_n X d_M_token_51 0 rfl rfl ?_
  refine b_dup X d_M_token_52 rfl ?_
  refine b_get X fl_M_105 0 rfl (v := .int (xi σ 0 3)) rfl d_M_token_53 ?_
  refine b_iconst X (v := 1) d_M_token_56 (by decide) ?_
  refine b_iadd X d_M_token_57 ?_
  refine b_put X fl_M_105 pl_M_length 0 rfl rfl rfl (Nat.le_of_ble_eq_true rfl) (uWM_0_length G (wi (wi σ 0 0 0) 7 n50 x1) ((xi σ 0 3) + 1)) d_M_token_58 ?_
  refine b_aload_n X d_M_token_61 0 rfl rfl ?_
  refine b_get X fl_M_105 0 rfl (v := .int ((xi σ 0 3) + 1)) rfl d_M_token_62 ?_
  exact b_iret X d_M_token_65 ⟨rfl, rfl⟩
theorem ct_M_token_ftf (G : GG) (σ : St) (x1 : Int32)  (c2 : ¬ x1 < 0) (c8 : x1 ≤ 31) (c21 : (xi σ 0 3) = 60) : Ct y_M_token c_M_token 2 (some .int) rm_M_token G [.ref (xa σ 0), .int x1] (WM G σ) (eqp (some (.int 0)) (WM G (wi σ 0 0 2))) := by
  refine Ct.of (by decide +kernel) (Nat.le_of_ble_eq_true rfl) (fun K X => ?_)
  show Lb K G _ _ 2 0 [(0, .ref (xa σ 0)), (1, .int x1)] [] _ 0 0
  refine b_aload_n X d_M_token_0 0 rfl rfl ?_
  refine b_iload_n X d_M_token_1 1 rfl rfl ?_
  refine b_if_lt X (tgt := 11) d_M_token_2 (by decide) (fun h => absurd h c2) (fun _ => ?_)
  refine b_iload_n X d_M_token_5 1 rfl rfl ?_
  refine b_bipush X (v := 31) d_M_token_6 (by decide) ?_
  refine b_icmp_le X (tgt := 15) d_M_token_8 (by decide) (fun _ => ?_) (fun h => absurd c8 h)
  refine b_aload_n X d_M_token_15 0 rfl rfl ?_
  refine b_get X fl_M_105 0 rfl (v := .int (xi σ 0 3)) rfl d_M_token_16 ?_
  refine b_bipush X (v := 60) d_M_token_19 (by decide) ?_
  refine b_icmp_ne X (tgt := 28) d_M_token_21 (by decide) (fun h => absurd c21 h) (fun _ => ?_)
  refine b_iconst X (v := 2) d_M_token_24 (by decide) ?_
  refine b_goto X (tgt := 29) d_M_token_25 (by decide) ?_
  refine b_put X fl_M_73 pl_M_thrown 0 rfl rfl rfl (Nat.le_of_ble_eq_true rfl) (uWM_0_thrown G σ 2) d_M_token_29 ?_
  refine b_aload_n X d_M_token_32 0 rfl rfl ?_
  refine b_get X fl_M_73 0 rfl (v := .int 2) rfl d_M_token_33 ?_
  refine b_if_le X (tgt := 41) d_M_token_36 (by decide) (fun h => absurd h (by decide)) (fun _ => ?_)
  refine b_iconst X (v := 0) d_M_token_39 (by decide) ?_
  exact b_iret X d_M_token_40 ⟨rfl, rfl⟩
theorem ct_M_token_ff (G : GG) (σ : St) (x1 : Int32)  (c2 : ¬ x1 < 0) (c8 : ¬ x1 ≤ 31) : Ct y_M_token c_M_token 2 (some .int) rm_M_token G [.ref (xa σ 0), .int x1] (WM G σ) (eqp (some (.int 0)) (WM G (wi σ 0 0 1))) := by
  refine Ct.of (by decide +kernel) (Nat.le_of_ble_eq_true rfl) (fun K X => ?_)
  show Lb K G _ _ 2 0 [(0, .ref (xa σ 0)), (1, .int x1)] [] _ 0 0
  refine b_aload_n X d_M_token_0 0 rfl rfl ?_
  refine b_iload_n X d_M_token_1 1 rfl rfl ?_
  refine b_if_lt X (tgt := 11) d_M_token_2 (by decide) (fun h => absurd h c2) (fun _ => ?_)
  refine b_iload_n X d_M_token_5 1 rfl rfl ?_
  refine b_bipush X (v := 31) d_M_token_6 (by decide) ?_
  refine b_icmp_le X (tgt := 15) d_M_token_8 (by decide) (fun h => absurd h c8) (fun _ => ?_)
  refine b_iconst X (v := 1) d_M_token_11 (by decide) ?_
  refine b_goto X (tgt := 29) d_M_token_12 (by decide) ?_
  refine b_put X fl_M_73 pl_M_thrown 0 rfl rfl rfl (Nat.le_of_ble_eq_true rfl) (uWM_0_thrown G σ 1) d_M_token_29 ?_
  refine b_aload_n X d_M_token_32 0 rfl rfl ?_
  refine b_get X fl_M_73 0 rfl (v := .int 1) rfl d_M_token_33 ?_
  refine b_if_le X (tgt := 41) d_M_token_36 (by decide) (fun h => absurd h (by decide)) (fun _ => ?_)
  refine b_iconst X (v := 0) d_M_token_39 (by decide) ?_
  exact b_iret X d_M_token_40 ⟨rfl, rfl⟩
theorem ct_M_keep_t (G : GG) (σ : St) (x1 : Int32)  (c2 : x1 < 0) : Ct y_M_keep c_M_keep 2 none rm_M_keep G [.ref (xa σ 0), .int x1] (WM G σ) (eqp none (WM G (wi (wi σ 0 0 1) 0 3 (xi σ 0 3)))) := by
  refine Ct.of (by decide +kernel) (Nat.le_of_ble_eq_true rfl) (fun K X => ?_)
  show Lb K G _ _ 2 0 [(0, .ref (xa σ 0)), (1, .int x1)] [] _ 0 0
  refine b_aload_n X d_M_keep_0 0 rfl rfl ?_
  refine b_iload_n X d_M_keep_1 1 rfl rfl ?_
  refine b_if_lt X (tgt := 13) d_M_keep_2 (by decide) (fun _ => ?_) (fun h => absurd c2 h)
  refine b_iconst X (v := 1) d_M_keep_13 (by decide) ?_
  refine b_goto X (tgt := 18) d_M_keep_14 (by decide) ?_
  refine b_put X fl_M_73 pl_M_thrown 0 rfl rfl rfl (Nat.le_of_ble_eq_true rfl) (uWM_0_thrown G σ 1) d_M_keep_18 ?_
  refine b_aload_n X d_M_keep_21 0 rfl rfl ?_
  refine b_aload_n X d_M_keep_22 0 rfl rfl ?_
  refine b_get X fl_M_73 0 rfl (v := .int 1) rfl d_M_keep_23 ?_
  refine b_if_le X (tgt := 36) d_M_keep_26 (by decide) (fun h => absurd h (by decide)) (fun _ => ?_)
  refine b_aload_n X d_M_keep_29 0 rfl rfl ?_
  refine b_get X fl_M_105 0 rfl (v := .int (xi σ 0 3)) rfl d_M_keep_30 ?_
  refine b_goto X (tgt := 37) d_M_keep_33 (by decide) ?_
  refine b_put X fl_M_105 pl_M_length 0 rfl rfl rfl (Nat.le_of_ble_eq_true rfl) (uWM_0_length G (wi σ 0 0 1) (xi σ 0 3)) d_M_keep_37 ?_
  exact b_vret X d_M_keep_40 ⟨rfl, rfl⟩
theorem ct_M_keep_ft (G : GG) (σ : St) (x1 : Int32)  (c2 : ¬ x1 < 0) (c10 : x1 ≤ (xi σ 0 3)) : Ct y_M_keep c_M_keep 2 none rm_M_keep G [.ref (xa σ 0), .int x1] (WM G σ) (eqp none (WM G (wi (wi σ 0 0 0) 0 3 x1))) := by
  refine Ct.of (by decide +kernel) (Nat.le_of_ble_eq_true rfl) (fun K X => ?_)
  show Lb K G _ _ 2 0 [(0, .ref (xa σ 0)), (1, .int x1)] [] _ 0 0
  refine b_aload_n X d_M_keep_0 0 rfl rfl ?_
  refine b_iload_n X d_M_keep_1 1 rfl rfl ?_
  refine b_if_lt X (tgt := 13) d_M_keep_2 (by decide) (fun h => absurd h c2) (fun _ => ?_)
  refine b_iload_n X d_M_keep_5 1 rfl rfl ?_
  refine b_aload_n X d_M_keep_6 0 rfl rfl ?_
  refine b_get X fl_M_105 0 rfl (v := .int (xi σ 0 3)) rfl d_M_keep_7 ?_
  refine b_icmp_le X (tgt := 17) d_M_keep_10 (by decide) (fun _ => ?_) (fun h => absurd c10 h)
  refine b_iconst X (v := 0) d_M_keep_17 (by decide) ?_
  refine b_put X fl_M_73 pl_M_thrown 0 rfl rfl rfl (Nat.le_of_ble_eq_true rfl) (uWM_0_thrown G σ 0) d_M_keep_18 ?_
  refine b_aload_n X d_M_keep_21 0 rfl rfl ?_
  refine b_aload_n X d_M_keep_22 0 rfl rfl ?_
  refine b_get X fl_M_73 0 rfl (v := .int 0) rfl d_M_keep_23 ?_
  refine b_if_le X (tgt := 36) d_M_keep_26 (by decide) (fun _ => ?_) (fun h => absurd h (by decide))
  refine b_iload_n X d_M_keep_36 1 rfl rfl ?_
  refine b_put X fl_M_105 pl_M_length 0 rfl rfl rfl (Nat.le_of_ble_eq_true rfl) (uWM_0_length G (wi σ 0 0 0) x1) d_M_keep_37 ?_
  exact b_vret X d_M_keep_40 ⟨rfl, rfl⟩
theorem ct_M_keep_ff (G : GG) (σ : St) (x1 : Int32)  (c2 : ¬ x1 < 0) (c10 : ¬ x1 ≤ (xi σ 0 3)) : Ct y_M_keep c_M_keep 2 none rm_M_keep G [.ref (xa σ 0), .int x1] (WM G σ) (eqp none (WM G (wi (wi σ 0 0 1) 0 3 (xi σ 0 3)))) := by
  refine Ct.of (by decide +kernel) (Nat.le_of_ble_eq_true rfl) (fun K X => ?_)
  show Lb K G _ _ 2 0 [(0, .ref (xa σ 0)), (1, .int x1)] [] _ 0 0
  refine b_aload_n X d_M_keep_0 0 rfl rfl ?_
  refine b_iload_n X d_M_keep_1 1 rfl rfl ?_
  refine b_if_lt X (tgt := 13) d_M_keep_2 (by decide) (fun h => absurd h c2) (fun _ => ?_)
  refine b_iload_n X d_M_keep_5 1 rfl rfl ?_
  refine b_aload_n X d_M_keep_6 0 rfl rfl ?_
  refine b_get X fl_M_105 0 rfl (v := .int (xi σ 0 3)) rfl d_M_keep_7 ?_
  refine b_icmp_le X (tgt := 17) d_M_keep_10 (by decide) (fun h => absurd h c10) (fun _ => ?_)
  refine b_iconst X (v := 1) d_M_keep_13 (by decide) ?_
  refine b_goto X (tgt := 18) d_M_keep_14 (by decide) ?_
  refine b_put X fl_M_73 pl_M_thrown 0 rfl rfl rfl (Nat.le_of_ble_eq_true rfl) (uWM_0_thrown G σ 1) d_M_keep_18 ?_
  refine b_aload_n X d_M_keep_21 0 rfl rfl ?_
  refine b_aload_n X d_M_keep_22 0 rfl rfl ?_
  refine b_get X fl_M_73 0 rfl (v := .int 1) rfl d_M_keep_23 ?_
  refine b_if_le X (tgt := 36) d_M_keep_26 (by decide) (fun h => absurd h (by decide)) (fun _ => ?_)
  refine b_aload_n X d_M_keep_29 0 rfl rfl ?_
  refine b_get X fl_M_105 0 rfl (v := .int (xi σ 0 3)) rfl d_M_keep_30 ?_
  refine b_goto X (tgt := 37) d_M_keep_33 (by decide) ?_
  refine b_put X fl_M_105 pl_M_length 0 rfl rfl rfl (Nat.le_of_ble_eq_true rfl) (uWM_0_length G (wi σ 0 0 1) (xi σ 0 3)) d_M_keep_37 ?_
  exact b_vret X d_M_keep_40 ⟨rfl, rfl⟩
theorem ct_M_nodes_ (G : GG) (σ : St)    : Ct y_M_nodes c_M_nodes 1 (some .int) rm_M_nodes G [.ref (xa σ 0)] (WM G σ) (eqp (some (.int (xi σ 0 4))) (WM G (wi σ 0 0 0))) := by
  refine Ct.of (by decide +kernel) (Nat.le_of_ble_eq_true rfl) (fun K X => ?_)
  show Lb K G _ _ 1 0 [(0, .ref (xa σ 0))] [] _ 0 0
  refine b_aload_n X d_M_nodes_0 0 rfl rfl ?_
  refine b_iconst X (v := 0) d_M_nodes_1 (by decide) ?_
  refine b_put X fl_M_73 pl_M_thrown 0 rfl rfl rfl (Nat.le_of_ble_eq_true rfl) (uWM_0_thrown G σ 0) d_M_nodes_2 ?_
  refine b_aload_n X d_M_nodes_5 0 rfl rfl ?_
  refine b_get X fl_M_158 0 rfl (v := .int (xi σ 0 4)) rfl d_M_nodes_6 ?_
  exact b_iret X d_M_nodes_9 ⟨rfl, rfl⟩
theorem ct_M_node_t (G : GG) (σ : St) (x1 : Int32) (x2 : Int32)  (c2 : x1 < 0) : Ct y_M_node c_M_node 3 (some .int) rm_M_node G [.ref (xa σ 0), .int x1, .int x2] (WM G σ) (eqp (some (.int 0)) (WM G (wi σ 0 0 1))) := by
  refine Ct.of (by decide +kernel) (Nat.le_of_ble_eq_true rfl) (fun K X => ?_)
  show Lb K G _ _ 3 0 [(0, .ref (xa σ 0)), (1, .int x1), (2, .int x2)] [] _ 0 0
  refine b_aload_n X d_M_node_0 0 rfl rfl ?_
  refine b_iload_n X d_M_node_1 1 rfl rfl ?_
  refine b_if_lt X (tgt := 13) d_M_node_2 (by decide) (fun _ => ?_) (fun h => absurd c2 h)
  refine b_iconst X (v := 1) d_M_node_13 (by decide) ?_
  refine b_goto X (tgt := 32) d_M_node_14 (by decide) ?_
  refine b_put X fl_M_73 pl_M_thrown 0 rfl rfl rfl (Nat.le_of_ble_eq_true rfl) (uWM_0_thrown G σ 1) d_M_node_32 ?_
  refine b_aload_n X d_M_node_35 0 rfl rfl ?_
  refine b_get X fl_M_73 0 rfl (v := .int 1) rfl d_M_node_36 ?_
  refine b_if_le X (tgt := 46) d_M_node_39 (by decide) (fun h => absurd h (by decide)) (fun _ => ?_)
  refine b_iconst X (v := 0) d_M_node_42 (by decide) ?_
  refine b_goto X (tgt := 57) d_M_node_43 (by decide) ?_
  exact b_iret X d_M_node_57 ⟨rfl, rfl⟩
theorem ct_M_node_ftt (G : GG) (σ : St) (x1 : Int32) (x2 : Int32)  (c2 : ¬ x1 < 0) (c10 : x1 < (xi σ 0 4)) (c18 : x2 < 0) : Ct y_M_node c_M_node 3 (some .int) rm_M_node G [.ref (xa σ 0), .int x1, .int x2] (WM G σ) (eqp (some (.int 0)) (WM G (wi σ 0 0 2))) := by
  refine Ct.of (by decide +kernel) (Nat.le_of_ble_eq_true rfl) (fun K X => ?_)
  show Lb K G _ _ 3 0 [(0, .ref (xa σ 0)), (1, .int x1), (2, .int x2)] [] _ 0 0
  refine b_aload_n X d_M_node_0 0 rfl rfl ?_
  refine b_iload_n X d_M_node_1 1 rfl rfl ?_
  refine b_if_lt X (tgt := 13) d_M_node_2 (by decide) (fun h => absurd h c2) (fun _ => ?_)
  refine b_iload_n X d_M_node_5 1 rfl rfl ?_
  refine b_aload_n X d_M_node_6 0 rfl rfl ?_
  refine b_get X fl_M_158 0 rfl (v := .int (xi σ 0 4)) rfl d_M_node_7 ?_
  refine b_icmp_lt X (tgt := 17) d_M_node_10 (by decide) (fun _ => ?_) (fun h => absurd c10 h)
  refine b_iload_n X d_M_node_17 2 rfl rfl ?_
  refine b_if_lt X (tgt := 27) d_M_node_18 (by decide) (fun _ => ?_) (fun h => absurd c18 h)
  refine b_iconst X (v := 2) d_M_node_27 (by decide) ?_
  refine b_goto X (tgt := 32) d_M_node_28 (by decide) ?_
  refine b_put X fl_M_73 pl_M_thrown 0 rfl rfl rfl (Nat.le_of_ble_eq_true rfl) (uWM_0_thrown G σ 2) d_M_node_32 ?_
  refine b_aload_n X d_M_node_35 0 rfl rfl ?_
  refine b_get X fl_M_73 0 rfl (v := .int 2) rfl d_M_node_36 ?_
  refine b_if_le X (tgt := 46) d_M_node_39 (by decide) (fun h => absurd h (by decide)) (fun _ => ?_)
  refine b_iconst X (v := 0) d_M_node_42 (by decide) ?_
  refine b_goto X (tgt := 57) d_M_node_43 (by decide) ?_
  exact b_iret X d_M_node_57 ⟨rfl, rfl⟩
theorem ct_M_node_ftft (G : GG) (σ : St) (x1 : Int32) (x2 : Int32) (n56 : Nat) (c2 : ¬ x1 < 0) (c10 : x1 < (xi σ 0 4)) (c18 : ¬ x2 < 0) (c24 : x2 ≤ 6) (e56 : ((7 * x1) + x2) = nI n56) (h56 : n56 < 14000) : Ct y_M_node c_M_node 3 (some .int) rm_M_node G [.ref (xa σ 0), .int x1, .int x2] (WM G σ) (eqp (some (.int (xi σ 16 n56))) (WM G (wi σ 0 0 0))) := by
  refine Ct.of (by decide +kernel) (Nat.le_of_ble_eq_true rfl) (fun K X => ?_)
  show Lb K G _ _ 3 0 [(0, .ref (xa σ 0)), (1, .int x1), (2, .int x2)] [] _ 0 0
  refine b_aload_n X d_M_node_0 0 rfl rfl ?_
  refine b_iload_n X d_M_node_1 1 rfl rfl ?_
  refine b_if_lt X (tgt := 13) d_M_node_2 (by decide) (fun h => absurd h c2) (fun _ => ?_)
  refine b_iload_n X d_M_node_5 1 rfl rfl ?_
  refine b_aload_n X d_M_node_6 0 rfl rfl ?_
  refine b_get X fl_M_158 0 rfl (v := .int (xi σ 0 4)) rfl d_M_node_7 ?_
  refine b_icmp_lt X (tgt := 17) d_M_node_10 (by decide) (fun _ => ?_) (fun h => absurd c10 h)
  refine b_iload_n X d_M_node_17 2 rfl rfl ?_
  refine b_if_lt X (tgt := 27) d_M_node_18 (by decide) (fun h => absurd h c18) (fun _ => ?_)
  refine b_iload_n X d_M_node_21 2 rfl rfl ?_
  refine b_bipush X (v := 6) d_M_node_22 (by decide) ?_
  refine b_icmp_le X (tgt := 31) d_M_node_24 (by decide) (fun _ => ?_) (fun h => absurd c24 h)
  refine b_iconst X (v := 0) d_M_node_31 (by decide) ?_
  refine b_put X fl_M_73 pl_M_thrown 0 rfl rfl rfl (Nat.le_of_ble_eq_true rfl) (uWM_0_thrown G σ 0) d_M_node_32 ?_
  refine b_aload_n X d_M_node_35 0 rfl rfl ?_
  refine b_get X fl_M_73 0 rfl (v := .int 0) rfl d_M_node_36 ?_
  refine b_if_le X (tgt := 46) d_M_node_39 (by decide) (fun _ => ?_) (fun h => absurd h (by decide))
  refine b_aload_n X d_M_node_46 0 rfl rfl ?_
  refine b_get X fl_M_58 0 rfl (v := .ref (xa σ 16)) rfl d_M_node_47 ?_
  refine b_bipush X (v := 7) d_M_node_50 (by decide) ?_
  refine b_iload_n X d_M_node_52 1 rfl rfl ?_
  refine b_imul X d_M_node_53 ?_
  refine b_iload_n X d_M_node_54 2 rfl rfl ?_
  refine b_iadd X d_M_node_55 ?_
  refine b_iald X 16 rfl (by decide) n56 e56 h56 d_M_node_56 ?_
  exact b_iret X d_M_node_57 ⟨rfl, rfl⟩
theorem ct_M_node_ftff (G : GG) (σ : St) (x1 : Int32) (x2 : Int32)  (c2 : ¬ x1 < 0) (c10 : x1 < (xi σ 0 4)) (c18 : ¬ x2 < 0) (c24 : ¬ x2 ≤ 6) : Ct y_M_node c_M_node 3 (some .int) rm_M_node G [.ref (xa σ 0), .int x1, .int x2] (WM G σ) (eqp (some (.int 0)) (WM G (wi σ 0 0 2))) := by
  refine Ct.of (by decide +kernel) (Nat.le_of_ble_eq_true rfl) (fun K X => ?_)
  show Lb K G _ _ 3 0 [(0, .ref (xa σ 0)), (1, .int x1), (2, .int x2)] [] _ 0 0
  refine b_aload_n X d_M_node_0 0 rfl rfl ?_
  refine b_iload_n X d_M_node_1 1 rfl rfl ?_
  refine b_if_lt X (tgt := 13) d_M_node_2 (by decide) (fun h => absurd h c2) (fun _ => ?_)
  refine b_iload_n X d_M_node_5 1 rfl rfl ?_
  refine b_aload_n X d_M_node_6 0 rfl rfl ?_
  refine b_get X fl_M_158 0 rfl (v := .int (xi σ 0 4)) rfl d_M_node_7 ?_
  refine b_icmp_lt X (tgt := 17) d_M_node_10 (by decide) (fun _ => ?_) (fun h => absurd c10 h)
  refine b_iload_n X d_M_node_17 2 rfl rfl ?_
  refine b_if_lt X (tgt := 27) d_M_node_18 (by decide) (fun h => absurd h c18) (fun _ => ?_)
  refine b_iload_n X d_M_node_21 2 rfl rfl ?_
  refine b_bipush X (v := 6) d_M_node_22 (by decide) ?_
  refine b_icmp_le X (tgt := 31) d_M_node_24 (by decide) (fun h => absurd h c24) (fun _ => ?_)
  refine b_iconst X (v := 2) d_M_node_27 (by decide) ?_
  refine b_goto X (tgt := 32) d_M_node_28 (by decide) ?_
  refine b_put X fl_M_73 pl_M_thrown 0 rfl rfl rfl (Nat.le_of_ble_eq_true rfl) (uWM_0_thrown G σ 2) d_M_node_32 ?_
  refine b_aload_n X d_M_node_35 0 rfl rfl ?_
  refine b_get X fl_M_73 0 rfl (v := .int 2) rfl d_M_node_36 ?_
  refine b_if_le X (tgt := 46) d_M_node_39 (by decide) (fun h => absurd h (by decide)) (fun _ => ?_)
  refine b_iconst X (v := 0) d_M_node_42 (by decide) ?_
  refine b_goto X (tgt := 57) d_M_node_43 (by decide) ?_
  exact b_iret X d_M_node_57 ⟨rfl, rfl⟩
theorem ct_M_node_ff (G : GG) (σ : St) (x1 : Int32) (x2 : Int32)  (c2 : ¬ x1 < 0) (c10 : ¬ x1 < (xi σ 0 4)) : Ct y_M_node c_M_node 3 (some .int) rm_M_node G [.ref (xa σ 0), .int x1, .int x2] (WM G σ) (eqp (some (.int 0)) (WM G (wi σ 0 0 1))) := by
  refine Ct.of (by decide +kernel) (Nat.le_of_ble_eq_true rfl) (fun K X => ?_)
  show Lb K G _ _ 3 0 [(0, .ref (xa σ 0)), (1, .int x1), (2, .int x2)] [] _ 0 0
  refine b_aload_n X d_M_node_0 0 rfl rfl ?_
  refine b_iload_n X d_M_node_1 1 rfl rfl ?_
  refine b_if_lt X (tgt := 13) d_M_node_2 (by decide) (fun h => absurd h c2) (fun _ => ?_)
  refine b_iload_n X d_M_node_5 1 rfl rfl ?_
  refine b_aload_n X d_M_node_6 0 rfl rfl ?_
  refine b_get X fl_M_158 0 rfl (v := .int (xi σ 0 4)) rfl d_M_node_7 ?_
  refine b_icmp_lt X (tgt := 17) d_M_node_10 (by decide) (fun h => absurd h c10) (fun _ => ?_)
  refine b_iconst X (v := 1) d_M_node_13 (by decide) ?_
  refine b_goto X (tgt := 32) d_M_node_14 (by decide) ?_
  refine b_put X fl_M_73 pl_M_thrown 0 rfl rfl rfl (Nat.le_of_ble_eq_true rfl) (uWM_0_thrown G σ 1) d_M_node_32 ?_
  refine b_aload_n X d_M_node_35 0 rfl rfl ?_
  refine b_get X fl_M_73 0 rfl (v := .int 1) rfl d_M_node_36 ?_
  refine b_if_le X (tgt := 46) d_M_node_39 (by decide) (fun h => absurd h (by decide)) (fun _ => ?_)
  refine b_iconst X (v := 0) d_M_node_42 (by decide) ?_
  refine b_goto X (tgt := 57) d_M_node_43 (by decide) ?_
  exact b_iret X d_M_node_57 ⟨rfl, rfl⟩
theorem ct_M_count_t (G : GG) (σ : St) (x1 : Int32)  (c2 : x1 < 0) : Ct y_M_count c_M_count 2 (some .int) rm_M_count G [.ref (xa σ 0), .int x1] (WM G σ) (eqp (some (.int 0)) (WM G (wi σ 0 0 1))) := by
  refine Ct.of (by decide +kernel) (Nat.le_of_ble_eq_true rfl) (fun K X => ?_)
  show Lb K G _ _ 2 0 [(0, .ref (xa σ 0)), (1, .int x1)] [] _ 0 0
  refine b_aload_n X d_M_count_0 0 rfl rfl ?_
  refine b_iload_n X d_M_count_1 1 rfl rfl ?_
  refine b_if_lt X (tgt := 11) d_M_count_2 (by decide) (fun _ => ?_) (fun h => absurd c2 h)
  refine b_iconst X (v := 1) d_M_count_11 (by decide) ?_
  refine b_goto X (tgt := 16) d_M_count_12 (by decide) ?_
  refine b_put X fl_M_73 pl_M_thrown 0 rfl rfl rfl (Nat.le_of_ble_eq_true rfl) (uWM_0_thrown G σ 1) d_M_count_16 ?_
  refine b_aload_n X d_M_count_19 0 rfl rfl ?_
  refine b_get X fl_M_73 0 rfl (v := .int 1) rfl d_M_count_20 ?_
  refine b_if_le X (tgt := 28) d_M_count_23 (by decide) (fun h => absurd h (by decide)) (fun _ => ?_)
  refine b_iconst X (v := 0) d_M_count_26 (by decide) ?_
  exact b_iret X d_M_count_27 ⟨rfl, rfl⟩
theorem ct_M_count_ftttt (G : GG) (σ : St) (x1 : Int32)  (c2 : ¬ x1 < 0) (c8 : x1 ≤ 17) (c29 : ¬ x1 = 0) (c41 : ¬ x1 = 1) (c58 : (xi σ 0 1) ≤ (x1 - 2)) : Ct y_M_count c_M_count 2 (some .int) rm_M_count G [.ref (xa σ 0), .int x1] (WM G σ) (eqp (some (.int 0)) (WM G (wi σ 0 0 0))) := by
  refine Ct.of (by decide +kernel) (Nat.le_of_ble_eq_true rfl) (fun K X => ?_)
  show Lb K G _ _ 2 0 [(0, .ref (xa σ 0)), (1, .int x1)] [] _ 0 0
  refine b_aload_n X d_M_count_0 0 rfl rfl ?_
  refine b_iload_n X d_M_count_1 1 rfl rfl ?_
  refine b_if_lt X (tgt := 11) d_M_count_2 (by decide) (fun h => absurd h c2) (fun _ => ?_)
  refine b_iload_n X d_M_count_5 1 rfl rfl ?_
  refine b_bipush X (v := 17) d_M_count_6 (by decide) ?_
  refine b_icmp_le X (tgt := 15) d_M_count_8 (by decide) (fun _ => ?_) (fun h => absurd c8 h)
  refine b_iconst X (v := 0) d_M_count_15 (by decide) ?_
  refine b_put X fl_M_73 pl_M_thrown 0 rfl rfl rfl (Nat.le_of_ble_eq_true rfl) (uWM_0_thrown G σ 0) d_M_count_16 ?_
  refine b_aload_n X d_M_count_19 0 rfl rfl ?_
  refine b_get X fl_M_73 0 rfl (v := .int 0) rfl d_M_count_20 ?_
  refine b_if_le X (tgt := 28) d_M_count_23 (by decide) (fun _ => ?_) (fun h => absurd h (by decide))
  refine b_iload_n X d_M_count_28 1 rfl rfl ?_
  refine b_if_ne X (tgt := 39) d_M_count_29 (by decide) (fun _ => ?_) (fun h => absurd h c29)
  refine b_iload_n X d_M_count_39 1 rfl rfl ?_
  refine b_iconst X (v := 1) d_M_count_40 (by decide) ?_
  refine b_icmp_ne X (tgt := 51) d_M_count_41 (by decide) (fun _ => ?_) (fun h => absurd h c41)
  refine b_iload_n X d_M_count_51 1 rfl rfl ?_
  refine b_iconst X (v := 2) d_M_count_52 (by decide) ?_
  refine b_isub X d_M_count_53 ?_
  refine b_aload_n X d_M_count_54 0 rfl rfl ?_
  refine b_get X fl_M_89 0 rfl (v := .int (xi σ 0 1)) rfl d_M_count_55 ?_
  refine b_icmp_ge X (tgt := 72) d_M_count_58 (by decide) (fun _ => ?_) (fun h => absurd c58 h)
  refine b_iconst X (v := 0) d_M_count_72 (by decide) ?_
  exact b_iret X d_M_count_73 ⟨rfl, rfl⟩
theorem ct_M_count_ftttf (G : GG) (σ : St) (x1 : Int32) (n68 : Nat) (c2 : ¬ x1 < 0) (c8 : x1 ≤ 17) (c29 : ¬ x1 = 0) (c41 : ¬ x1 = 1) (c58 : ¬ (xi σ 0 1) ≤ (x1 - 2)) (e68 : (x1 - 2) = nI n68) (h68 : n68 < 16) : Ct y_M_count c_M_count 2 (some .int) rm_M_count G [.ref (xa σ 0), .int x1] (WM G σ) (eqp (some (.int (xi σ 1 n68))) (WM G (wi σ 0 0 0))) := by
  refine Ct.of (by decide +kernel) (Nat.le_of_ble_eq_true rfl) (fun K X => ?_)
  show Lb K G _ _ 2 0 [(0, .ref (xa σ 0)), (1, .int x1)] [] _ 0 0
  refine b_aload_n X d_M_count_0 0 rfl rfl ?_
  refine b_iload_n X d_M_count_1 1 rfl rfl ?_
  refine b_if_lt X (tgt := 11) d_M_count_2 (by decide) (fun h => absurd h c2) (fun _ => ?_)
  refine b_iload_n X d_M_count_5 1 rfl rfl ?_
  refine b_bipush X (v := 17) d_M_count_6 (by decide) ?_
  refine b_icmp_le X (tgt := 15) d_M_count_8 (by decide) (fun _ => ?_) (fun h => absurd c8 h)
  refine b_iconst X (v := 0) d_M_count_15 (by decide) ?_
  refine b_put X fl_M_73 pl_M_thrown 0 rfl rfl rfl (Nat.le_of_ble_eq_true rfl) (uWM_0_thrown G σ 0) d_M_count_16 ?_
  refine b_aload_n X d_M_count_19 0 rfl rfl ?_
  refine b_get X fl_M_73 0 rfl (v := .int 0) rfl d_M_count_20 ?_
  refine b_if_le X (tgt := 28) d_M_count_23 (by decide) (fun _ => ?_) (fun h => absurd h (by decide))
  refine b_iload_n X d_M_count_28 1 rfl rfl ?_
  refine b_if_ne X (tgt := 39) d_M_count_29 (by decide) (fun _ => ?_) (fun h => absurd h c29)
  refine b_iload_n X d_M_count_39 1 rfl rfl ?_
  refine b_iconst X (v := 1) d_M_count_40 (by decide) ?_
  refine b_icmp_ne X (tgt := 51) d_M_count_41 (by decide) (fun _ => ?_) (fun h => absurd h c41)
  refine b_iload_n X d_M_count_51 1 rfl rfl ?_
  refine b_iconst X (v := 2) d_M_count_52 (by decide) ?_
  refine b_isub X d_M_count_53 ?_
  refine b_aload_n X d_M_count_54 0 rfl rfl ?_
  refine b_get X fl_M_89 0 rfl (v := .int (xi σ 0 1)) rfl d_M_count_55 ?_
  refine b_icmp_ge X (tgt := 72) d_M_count_58 (by decide) (fun h => absurd h c58) (fun _ => ?_)
  refine b_aload_n X d_M_count_61 0 rfl rfl ?_
  refine b_get X fl_M_7 0 rfl (v := .ref (xa σ 1)) rfl d_M_count_62 ?_
  refine b_iload_n X d_M_count_65 1 rfl rfl ?_
  refine b_iconst X (v := 2) d_M_count_66 (by decide) ?_
  refine b_isub X d_M_count_67 ?_
  refine b_iald X 1 rfl (by decide) n68 e68 h68 d_M_count_68 ?_
  refine b_goto X (tgt := 73) d_M_count_69 (by decide) ?_
  exact b_iret X d_M_count_73 ⟨rfl, rfl⟩
theorem ct_M_count_fttf (G : GG) (σ : St) (x1 : Int32)  (c2 : ¬ x1 < 0) (c8 : x1 ≤ 17) (c29 : ¬ x1 = 0) (c41 : x1 = 1) : Ct y_M_count c_M_count 2 (some .int) rm_M_count G [.ref (xa σ 0), .int x1] (WM G σ) (eqp (some (.int (xi σ 0 3))) (WM G (wi σ 0 0 0))) := by
  refine Ct.of (by decide +kernel) (Nat.le_of_ble_eq_true rfl) (fun K X => ?_)
  show Lb K G _ _ 2 0 [(0, .ref (xa σ 0)), (1, .int x1)] [] _ 0 0
  refine b_aload_n X d_M_count_0 0 rfl rfl ?_
  refine b_iload_n X d_M_count_1 1 rfl rfl ?_
  refine b_if_lt X (tgt := 11) d_M_count_2 (by decide) (fun h => absurd h c2) (fun _ => ?_)
  refine b_iload_n X d_M_count_5 1 rfl rfl ?_
  refine b_bipush X (v := 17) d_M_count_6 (by decide) ?_
  refine b_icmp_le X (tgt := 15) d_M_count_8 (by decide) (fun _ => ?_) (fun h => absurd c8 h)
  refine b_iconst X (v := 0) d_M_count_15 (by decide) ?_
  refine b_put X fl_M_73 pl_M_thrown 0 rfl rfl rfl (Nat.le_of_ble_eq_true rfl) (uWM_0_thrown G σ 0) d_M_count_16 ?_
  refine b_aload_n X d_M_count_19 0 rfl rfl ?_
  refine b_get X fl_M_73 0 rfl (v := .int 0) rfl d_M_count_20 ?_
  refine b_if_le X (tgt := 28) d_M_count_23 (by decide) (fun _ => ?_) (fun h => absurd h (by decide))
  refine b_iload_n X d_M_count_28 1 rfl rfl ?_
  refine b_if_ne X (tgt := 39) d_M_count_29 (by decide) (fun _ => ?_) (fun h => absurd h c29)
  refine b_iload_n X d_M_count_39 1 rfl rfl ?_
  refine b_iconst X (v := 1) d_M_count_40 (by decide) ?_
  refine b_icmp_ne X (tgt := 51) d_M_count_41 (by decide) (fun h => absurd c41 h) (fun _ => ?_)
  refine b_aload_n X d_M_count_44 0 rfl rfl ?_
  refine b_get X fl_M_105 0 rfl (v := .int (xi σ 0 3)) rfl d_M_count_45 ?_
  refine b_goto X (tgt := 73) d_M_count_48 (by decide) ?_
  exact b_iret X d_M_count_73 ⟨rfl, rfl⟩
theorem ct_M_count_ftf (G : GG) (σ : St) (x1 : Int32)  (c2 : ¬ x1 < 0) (c8 : x1 ≤ 17) (c29 : x1 = 0) : Ct y_M_count c_M_count 2 (some .int) rm_M_count G [.ref (xa σ 0), .int x1] (WM G σ) (eqp (some (.int (xi σ 0 1))) (WM G (wi σ 0 0 0))) := by
  refine Ct.of (by decide +kernel) (Nat.le_of_ble_eq_true rfl) (fun K X => ?_)
  show Lb K G _ _ 2 0 [(0, .ref (xa σ 0)), (1, .int x1)] [] _ 0 0
  refine b_aload_n X d_M_count_0 0 rfl rfl ?_
  refine b_iload_n X d_M_count_1 1 rfl rfl ?_
  refine b_if_lt X (tgt := 11) d_M_count_2 (by decide) (fun h => absurd h c2) (fun _ => ?_)
  refine b_iload_n X d_M_count_5 1 rfl rfl ?_
  refine b_bipush X (v := 17) d_M_count_6 (by decide) ?_
  refine b_icmp_le X (tgt := 15) d_M_count_8 (by decide) (fun _ => ?_) (fun h => absurd c8 h)
  refine b_iconst X (v := 0) d_M_count_15 (by decide) ?_
  refine b_put X fl_M_73 pl_M_thrown 0 rfl rfl rfl (Nat.le_of_ble_eq_true rfl) (uWM_0_thrown G σ 0) d_M_count_16 ?_
  refine b_aload_n X d_M_count_19 0 rfl rfl ?_
  refine b_get X fl_M_73 0 rfl (v := .int 0) rfl d_M_count_20 ?_
  refine b_if_le X (tgt := 28) d_M_count_23 (by decide) (fun _ => ?_) (fun h => absurd h (by decide))
  refine b_iload_n X d_M_count_28 1 rfl rfl ?_
  refine b_if_ne X (tgt := 39) d_M_count_29 (by decide) (fun h => absurd c29 h) (fun _ => ?_)
  refine b_aload_n X d_M_count_32 0 rfl rfl ?_
  refine b_get X fl_M_89 0 rfl (v := .int (xi σ 0 1)) rfl d_M_count_33 ?_
  refine b_goto X (tgt := 73) d_M_count_36 (by decide) ?_
  exact b_iret X d_M_count_73 ⟨rfl, rfl⟩
theorem ct_M_count_ff (G : GG) (σ : St) (x1 : Int32)  (c2 : ¬ x1 < 0) (c8 : ¬ x1 ≤ 17) : Ct y_M_count c_M_count 2 (some .int) rm_M_count G [.ref (xa σ 0), .int x1] (WM G σ) (eqp (some (.int 0)) (WM G (wi σ 0 0 1))) := by
  refine Ct.of (by decide +kernel) (Nat.le_of_ble_eq_true rfl) (fun K X => ?_)
  show Lb K G _ _ 2 0 [(0, .ref (xa σ 0)), (1, .int x1)] [] _ 0 0
  refine b_aload_n X d_M_count_0 0 rfl rfl ?_
  refine b_iload_n X d_M_count_1 1 rfl rfl ?_
  refine b_if_lt X (tgt := 11) d_M_count_2 (by decide) (fun h => absurd h c2) (fun _ => ?_)
  refine b_iload_n X d_M_count_5 1 rfl rfl ?_
  refine b_bipush X (v := 17) d_M_count_6 (by decide) ?_
  refine b_icmp_le X (tgt := 15) d_M_count_8 (by decide) (fun h => absurd h c8) (fun _ => ?_)
  refine b_iconst X (v := 1) d_M_count_11 (by decide) ?_
  refine b_goto X (tgt := 16) d_M_count_12 (by decide) ?_
  refine b_put X fl_M_73 pl_M_thrown 0 rfl rfl rfl (Nat.le_of_ble_eq_true rfl) (uWM_0_thrown G σ 1) d_M_count_16 ?_
  refine b_aload_n X d_M_count_19 0 rfl rfl ?_
  refine b_get X fl_M_73 0 rfl (v := .int 1) rfl d_M_count_20 ?_
  refine b_if_le X (tgt := 28) d_M_count_23 (by decide) (fun h => absurd h (by decide)) (fun _ => ?_)
  refine b_iconst X (v := 0) d_M_count_26 (by decide) ?_
  exact b_iret X d_M_count_27 ⟨rfl, rfl⟩
theorem ct_M_push_ (G : GG) (σ : St) (x1 : Int32) (x2 : Int32) (x3 : Int64) (n9 : Nat) (e9 : (xi σ 0 6) = nI n9) (h9 : n9 < 20000) : Ct y_M_push c_M_push 5 none rm_M_push G [.ref (xa σ 0), .int x1, .int x2, .long x3] (WM G σ) (eqp none (WM G (wi (wl (wi (wi σ 18 n9 x1) 19 n9 x2) 20 n9 x3) 0 6 ((xi σ 0 6) + 1)))) := by
  refine Ct.of (by decide +kernel) (Nat.le_of_ble_eq_true rfl) (fun K X => ?_)
  show Lb K G _ _ 5 0 [(0, .ref (xa σ 0)), (1, .int x1), (2, .int x2), (3, .long x3)] [] _ 0 0
  refine b_aload_n X d_M_push_0 0 rfl rfl ?_
  refine b_get X fl_M_64 0 rfl (v := .ref (xa σ 18)) rfl d_M_push_1 ?_
  refine b_aload_n X d_M_push_4 0 rfl rfl ?_
  refine b_get X fl_M_132 0 rfl (v := .int (xi σ 0 6)) rfl d_M_push_5 ?_
  refine b_iload_n X d_M_push_8 1 rfl rfl ?_
  refine b_iast X 18 rfl (by decide) n9 e9 h9 (uWM_18 G σ n9 x1) d_M_push_9 ?_
  refine b_aload_n X d_M_push_10 0 rfl rfl ?_
  refine b_get X fl_M_67 0 rfl (v := .ref (xa σ 19)) rfl d_M_push_11 ?_
  refine b_aload_n X d_M_push_14 0 rfl rfl ?_
  refine b_get X fl_M_132 0 rfl (v := .int (xi σ 0 6)) rfl d_M_push_15 ?_
  refine b_iload_n X d_M_push_18 2 rfl rfl ?_
  refine b_iast X 19 rfl (by decide) n9 e9 h9 (uWM_19 G (wi σ 18 n9 x1) n9 x2) d_M_push_19 ?_
  refine b_aload_n X d_M_push_20 0 rfl rfl ?_
  refine b_get X fl_M_70 0 rfl (v := .ref (xa σ 20)) rfl d_M_push_21 ?_
  refine b_aload_n X d_M_push_24 0 rfl rfl ?_
  refine b_get X fl_M_132 0 rfl (v := .int (xi σ 0 6)) rfl d_M_push_25 ?_
  refine b_lload_n X d_M_push_28 3 rfl rfl ?_
  refine b_last X 20 rfl (by decide) n9 e9 h9 (uWM_20 G (wi (wi σ 18 n9 x1) 19 n9 x2) n9 x3) d_M_push_29 ?_
  refine b_aload_n X d_M_push_30 0 rfl rfl ?_
  refine b_dup X d_M_push_31 rfl ?_
  refine b_get X fl_M_132 0 rfl (v := .int (xi σ 0 6)) rfl d_M_push_32 ?_
  refine b_iconst X (v := 1) d_M_push_35 (by decide) ?_
  refine b_iadd X d_M_push_36 ?_
  refine b_put X fl_M_132 pl_M_high 0 rfl rfl rfl (Nat.le_of_ble_eq_true rfl) (uWM_0_high G (wl (wi (wi σ 18 n9 x1) 19 n9 x2) 20 n9 x3) ((xi σ 0 6) + 1)) d_M_push_37 ?_
  exact b_vret X d_M_push_40 ⟨rfl, rfl⟩
