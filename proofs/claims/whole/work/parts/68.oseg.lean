/-! segments, by program (wip/gen) -/
theorem sg_S_findOrder_0_4 {K : KX} {G : GG} {w0 : va_W} {Q : State → Prop} (X : Bd K G w0 "FirstTrees$Study" c_S_findOrder 4 none rm_S_findOrder) (σ : St)    (k : Lb K G w0 Q 4 4 [(0, .ref (xa σ 5)), (1, .int 0), (2, .int 0)] [] (WC G σ) 0 0) : Lb K G w0 Q 4 0 [(0, .ref (xa σ 5))] [] (WC G σ) 0 0 := by
  refine b_iconst X (v := 0) d_S_findOrder_0 (by decide) ?_
  refine b_istore_n X (lv' := [(0, .ref (xa σ 5)), (1, .int 0)]) d_S_findOrder_1 rfl (by decide) [1, 0] rfl ?_
  refine b_iconst X (v := 0) d_S_findOrder_2 (by decide) ?_
  refine b_istore_n X (lv' := [(0, .ref (xa σ 5)), (1, .int 0), (2, .int 0)]) d_S_findOrder_3 rfl (by decide) [1, 2, 0] rfl ?_
  exact k
theorem sg_S_findOrder_4_tr {K : KX} {G : GG} {w0 : va_W} {post : PostT} (X : Bd K G w0 "FirstTrees$Study" c_S_findOrder 4 none rm_S_findOrder) (σ : St) (x1 : Int32) (x2 : Int32)  (c7 : 16 ≤ x2) (hp : post none (WC G σ)) : Lb K G w0 (Qe K G w0 post rm_S_findOrder) 4 4 [(0, .ref (xa σ 5)), (1, .int x1), (2, .int x2)] [] (WC G σ) 0 0 := by
  refine b_iload_n X d_S_findOrder_4 2 rfl rfl ?_
  refine b_bipush X (v := 16) d_S_findOrder_5 (by decide) ?_
  refine b_icmp_ge X (tgt := 58) d_S_findOrder_7 (by decide) (fun _ => ?_) (fun h => absurd c7 h)
  exact b_vret X d_S_findOrder_58 hp
theorem sg_S_findOrder_4_f12 {K : KX} {G : GG} {w0 : va_W} {Q : State → Prop} (X : Bd K G w0 "FirstTrees$Study" c_S_findOrder 4 none rm_S_findOrder) (σ : St) (x1 : Int32) (x2 : Int32)  (c7 : ¬ 16 ≤ x2) (k : Lb K G w0 Q 4 12 [(0, .ref (xa σ 5)), (1, .int x1), (2, .int x2), (3, .int 0)] [] (WC G σ) 0 0) : Lb K G w0 Q 4 4 [(0, .ref (xa σ 5)), (1, .int x1), (2, .int x2)] [] (WC G σ) 0 0 := by
  refine b_iload_n X d_S_findOrder_4 2 rfl rfl ?_
  refine b_bipush X (v := 16) d_S_findOrder_5 (by decide) ?_
  refine b_icmp_ge X (tgt := 58) d_S_findOrder_7 (by decide) (fun h => absurd h c7) (fun _ => ?_)
  refine b_iconst X (v := 0) d_S_findOrder_10 (by decide) ?_
  refine b_istore_n X (lv' := [(0, .ref (xa σ 5)), (1, .int x1), (2, .int x2), (3, .int 0)]) d_S_findOrder_11 rfl (by decide) [1, 2, 3, 0] rfl ?_
  exact k
theorem sg_S_findOrder_12_t4 {K : KX} {G : GG} {w0 : va_W} {Q : State → Prop} (X : Bd K G w0 "FirstTrees$Study" c_S_findOrder 4 none rm_S_findOrder) (σ : St) (x1 : Int32) (x2 : Int32) (x3 : Int32)  (c20 : (xi σ 1 0) ≤ x3) (k : Lb K G w0 Q 4 4 [(0, .ref (xa σ 5)), (1, .int x1), (2, .int (x2 + 1))] [] (WC G σ) 0 0) : Lb K G w0 Q 4 12 [(0, .ref (xa σ 5)), (1, .int x1), (2, .int x2), (3, .int x3)] [] (WC G σ) 0 0 := by
  refine b_iload_n X d_S_findOrder_12 3 rfl rfl ?_
  refine b_aload_n X d_S_findOrder_13 0 rfl rfl ?_
  refine b_get X fl_S_25 5 rfl (v := .ref (xa σ 1)) rfl d_S_findOrder_14 ?_
  refine b_dV X cf_G_rules ci_G_rules ml_S_83 (ct_G_rules_ G σ ) 1 rfl rfl (As := []) (rest := [.int x3]) rfl (Nat.le_of_ble_eq_true rfl) ⟨Nat.le_of_ble_eq_true rfl, Nat.le_of_ble_eq_true rfl⟩ ⟨Nat.le_of_ble_eq_true rfl, Nat.le_of_ble_eq_true rfl⟩ rfl rfl d_S_findOrder_17 ?_
  refine b_icmp_ge X (tgt := 52) d_S_findOrder_20 (by decide) (fun _ => ?_) (fun h => absurd c20 h)
  refine b_iinc X (lv' := [(0, .ref (xa σ 5)), (1, .int x1), (2, .int (x2 + 1)), (3, .int x3)]) d_S_findOrder_52 2 rfl (v := (x2 + 1)) rfl (by decide) [1, 2, 0, 3] rfl ?_
  refine b_goto X (tgt := 4) d_S_findOrder_55 (by decide) ?_
  refine Lb.pick (lv' := [(0, .ref (xa σ 5)), (1, .int x1), (2, .int (x2 + 1))]) [0, 1, 2] rfl ?_
  exact k
theorem sg_S_findOrder_12_ft12 {K : KX} {G : GG} {w0 : va_W} {Q : State → Prop} (X : Bd K G w0 "FirstTrees$Study" c_S_findOrder 4 none rm_S_findOrder) (σ : St) (x1 : Int32) (x2 : Int32) (x3 : Int32) (n28 : Nat) (c20 : ¬ (xi σ 1 0) ≤ x3) (e28 : x3 = nI n28) (h28 : n28 < 16) (c33 : ¬ (bc (xi σ 6 n28)) = x2) (k : Lb K G w0 Q 4 12 [(0, .ref (xa σ 5)), (1, .int x1), (2, .int x2), (3, .int (x3 + 1))] [] (WC G σ) 0 0) : Lb K G w0 Q 4 12 [(0, .ref (xa σ 5)), (1, .int x1), (2, .int x2), (3, .int x3)] [] (WC G σ) 0 0 := by
  refine b_iload_n X d_S_findOrder_12 3 rfl rfl ?_
  refine b_aload_n X d_S_findOrder_13 0 rfl rfl ?_
  refine b_get X fl_S_25 5 rfl (v := .ref (xa σ 1)) rfl d_S_findOrder_14 ?_
  refine b_dV X cf_G_rules ci_G_rules ml_S_83 (ct_G_rules_ G σ ) 1 rfl rfl (As := []) (rest := [.int x3]) rfl (Nat.le_of_ble_eq_true rfl) ⟨Nat.le_of_ble_eq_true rfl, Nat.le_of_ble_eq_true rfl⟩ ⟨Nat.le_of_ble_eq_true rfl, Nat.le_of_ble_eq_true rfl⟩ rfl rfl d_S_findOrder_17 ?_
  refine b_icmp_ge X (tgt := 52) d_S_findOrder_20 (by decide) (fun h => absurd h c20) (fun _ => ?_)
  refine b_aload_n X d_S_findOrder_23 0 rfl rfl ?_
  refine b_get X fl_S_9 5 rfl (v := .ref (xa σ 6)) rfl d_S_findOrder_24 ?_
  refine b_iload_n X d_S_findOrder_27 3 rfl rfl ?_
  refine b_iald X 6 rfl (by decide) n28 e28 h28 d_S_findOrder_28 ?_
  refine b_dS X cf_B ci_B ml_S_112 (ct_B G _ (xi σ 6 n28)) (As := [.int (xi σ 6 n28)]) (rest := []) rfl (Nat.le_of_ble_eq_true rfl) ⟨Nat.le_of_ble_eq_true rfl, Nat.le_of_ble_eq_true rfl⟩ ⟨Nat.le_of_ble_eq_true rfl, Nat.le_of_ble_eq_true rfl⟩ rfl rfl d_S_findOrder_29 ?_
  refine b_iload_n X d_S_findOrder_32 2 rfl rfl ?_
  refine b_icmp_ne X (tgt := 46) d_S_findOrder_33 (by decide) (fun _ => ?_) (fun h => absurd h c33)
  refine b_iinc X (lv' := [(0, .ref (xa σ 5)), (1, .int x1), (2, .int x2), (3, .int (x3 + 1))]) d_S_findOrder_46 3 rfl (v := (x3 + 1)) rfl (by decide) [1, 2, 3, 0] rfl ?_
  refine b_goto X (tgt := 12) d_S_findOrder_49 (by decide) ?_
  exact k
theorem sg_S_findOrder_12_ff12 {K : KX} {G : GG} {w0 : va_W} {Q : State → Prop} (X : Bd K G w0 "FirstTrees$Study" c_S_findOrder 4 none rm_S_findOrder) (σ : St) (x1 : Int32) (x2 : Int32) (x3 : Int32) (n28 : Nat) (n42 : Nat) (c20 : ¬ (xi σ 1 0) ≤ x3) (e28 : x3 = nI n28) (h28 : n28 < 16) (c33 : (bc (xi σ 6 n28)) = x2) (e42 : x1 = nI n42) (h42 : n42 < 16) (k : Lb K G w0 Q 4 12 [(0, .ref (xa σ 5)), (1, .int (x1 + 1)), (2, .int x2), (3, .int (x3 + 1))] [] (WC G (wi σ 7 n42 x3)) 0 0) : Lb K G w0 Q 4 12 [(0, .ref (xa σ 5)), (1, .int x1), (2, .int x2), (3, .int x3)] [] (WC G σ) 0 0 := by
  refine b_iload_n X d_S_findOrder_12 3 rfl rfl ?_
  refine b_aload_n X d_S_findOrder_13 0 rfl rfl ?_
  refine b_get X fl_S_25 5 rfl (v := .ref (xa σ 1)) rfl d_S_findOrder_14 ?_
  refine b_dV X cf_G_rules ci_G_rules ml_S_83 (ct_G_rules_ G σ ) 1 rfl rfl (As := []) (rest := [.int x3]) rfl (Nat.le_of_ble_eq_true rfl) ⟨Nat.le_of_ble_eq_true rfl, Nat.le_of_ble_eq_true rfl⟩ ⟨Nat.le_of_ble_eq_true rfl, Nat.le_of_ble_eq_true rfl⟩ rfl rfl d_S_findOrder_17 ?_
  refine b_icmp_ge X (tgt := 52) d_S_findOrder_20 (by decide) (fun h => absurd h c20) (fun _ => ?_)
  refine b_aload_n X d_S_findOrder_23 0 rfl rfl ?_
  refine b_get X fl_S_9 5 rfl (v := .ref (xa σ 6)) rfl d_S_findOrder_24 ?_
  refine b_iload_n X d_S_findOrder_27 3 rfl rfl ?_
  refine b_iald X 6 rfl (by decide) n28 e28 h28 d_S_findOrder_28 ?_
  refine b_dS X cf_B ci_B ml_S_112 (ct_B G _ (xi σ 6 n28)) (As := [.int (xi σ 6 n28)]) (rest := []) rfl (Nat.le_of_ble_eq_true rfl) ⟨Nat.le_of_ble_eq_true rfl, Nat.le_of_ble_eq_true rfl⟩ ⟨Nat.le_of_ble_eq_true rfl, Nat.le_of_ble_eq_true rfl⟩ rfl rfl d_S_findOrder_29 ?_
  refine b_iload_n X d_S_findOrder_32 2 rfl rfl ?_
  refine b_icmp_ne X (tgt := 46) d_S_findOrder_33 (by decide) (fun h => absurd c33 h) (fun _ => ?_)
  refine b_aload_n X d_S_findOrder_36 0 rfl rfl ?_
  refine b_get X fl_S_15 5 rfl (v := .ref (xa σ 7)) rfl d_S_findOrder_37 ?_
  refine b_iload_n X d_S_findOrder_40 1 rfl rfl ?_
  refine b_iload_n X d_S_findOrder_41 3 rfl rfl ?_
  refine b_iast X 7 rfl (by decide) n42 e42 h42 (uWC_7 G σ n42 x3) d_S_findOrder_42 ?_
  refine b_iinc X (lv' := [(0, .ref (xa σ 5)), (1, .int (x1 + 1)), (2, .int x2), (3, .int x3)]) d_S_findOrder_43 1 rfl (v := (x1 + 1)) rfl (by decide) [1, 0, 2, 3] rfl ?_
  refine b_iinc X (lv' := [(0, .ref (xa σ 5)), (1, .int (x1 + 1)), (2, .int x2), (3, .int (x3 + 1))]) d_S_findOrder_46 3 rfl (v := (x3 + 1)) rfl (by decide) [1, 2, 3, 0] rfl ?_
  refine b_goto X (tgt := 12) d_S_findOrder_49 (by decide) ?_
  exact k
