/-! segments, by program (wip/gen) -/
theorem sg_C_fill_0_11 {K : KX} {G : GG} {w0 : va_W} {Q : State → Prop} (X : Bd K G w0 "FirstTrees$Chart" c_C_fill 4 none rm_C_fill) (σ : St) (x1 : Int32) (q6 : Sq) (t6 : Ct y_C_findPlaces c_C_findPlaces 2 none rm_C_findPlaces G [.ref (xa σ 12)] (WC G (wi σ 12 0 x1)) (eqp (none) (WC G (xa σ, q6)))) (k : Lb K G w0 Q 4 11 [(0, .ref (xa σ 12)), (1, .int x1), (2, .int x1)] [] (WC G (xa σ, q6)) 0 0) : Lb K G w0 Q 4 0 [(0, .ref (xa σ 12)), (1, .int x1)] [] (WC G σ) 0 0 := by
  refine b_aload_n X d_C_fill_0 0 rfl rfl ?_
  refine b_iload_n X d_C_fill_1 1 rfl rfl ?_
  refine b_put X fl_C_43 pl_C_end 12 rfl rfl rfl (Nat.le_of_ble_eq_true rfl) (uWC_12_end G σ x1) d_C_fill_2 ?_
  refine b_aload_n X d_C_fill_5 0 rfl rfl ?_
  refine b_dV X cf_C_findPlaces ci_C_findPlaces ml_C_47 t6 12 rfl rfl (As := []) (rest := []) rfl (Nat.le_of_ble_eq_true rfl) ⟨Nat.le_of_ble_eq_true rfl, Nat.le_of_ble_eq_true rfl⟩ ⟨Nat.le_of_ble_eq_true rfl, Nat.le_of_ble_eq_true rfl⟩ rfl rfl d_C_fill_6 ?_
  refine b_iload_n X d_C_fill_9 1 rfl rfl ?_
  refine b_istore_n X (lv' := [(0, .ref (xa σ 12)), (1, .int x1), (2, .int x1)]) d_C_fill_10 rfl (by decide) [1, 2, 0] rfl ?_
  exact k
theorem sg_C_fill_11_tr {K : KX} {G : GG} {w0 : va_W} {post : PostT} (X : Bd K G w0 "FirstTrees$Chart" c_C_fill 4 none rm_C_fill) (σ : St) (x1 : Int32) (x2 : Int32)  (c12 : x2 < 0) (hp : post none (WC G σ)) : Lb K G w0 (Qe K G w0 post rm_C_fill) 4 11 [(0, .ref (xa σ 12)), (1, .int x1), (2, .int x2)] [] (WC G σ) 0 0 := by
  refine b_iload_n X d_C_fill_11 2 rfl rfl ?_
  refine b_if_lt X (tgt := 53) d_C_fill_12 (by decide) (fun _ => ?_) (fun h => absurd c12 h)
  exact b_vret X d_C_fill_53 hp
theorem sg_C_fill_11_f17 {K : KX} {G : GG} {w0 : va_W} {Q : State → Prop} (X : Bd K G w0 "FirstTrees$Chart" c_C_fill 4 none rm_C_fill) (σ : St) (x1 : Int32) (x2 : Int32)  (c12 : ¬ x2 < 0) (k : Lb K G w0 Q 4 17 [(0, .ref (xa σ 12)), (1, .int x1), (2, .int x2), (3, .int 0)] [] (WC G σ) 0 0) : Lb K G w0 Q 4 11 [(0, .ref (xa σ 12)), (1, .int x1), (2, .int x2)] [] (WC G σ) 0 0 := by
  refine b_iload_n X d_C_fill_11 2 rfl rfl ?_
  refine b_if_lt X (tgt := 53) d_C_fill_12 (by decide) (fun h => absurd h c12) (fun _ => ?_)
  refine b_iconst X (v := 0) d_C_fill_15 (by decide) ?_
  refine b_istore_n X (lv' := [(0, .ref (xa σ 12)), (1, .int x1), (2, .int x2), (3, .int 0)]) d_C_fill_16 rfl (by decide) [1, 2, 3, 0] rfl ?_
  exact k
theorem sg_C_fill_17_t11 {K : KX} {G : GG} {w0 : va_W} {Q : State → Prop} (X : Bd K G w0 "FirstTrees$Chart" c_C_fill 4 none rm_C_fill) (σ : St) (x1 : Int32) (x2 : Int32) (x3 : Int32)  (c25 : (xi σ 1 0) ≤ x3) (k : Lb K G w0 Q 4 11 [(0, .ref (xa σ 12)), (1, .int x1), (2, .int (x2 + (-1)))] [] (WC G σ) 0 0) : Lb K G w0 Q 4 17 [(0, .ref (xa σ 12)), (1, .int x1), (2, .int x2), (3, .int x3)] [] (WC G σ) 0 0 := by
  refine b_iload_n X d_C_fill_17 3 rfl rfl ?_
  refine b_aload_n X d_C_fill_18 0 rfl rfl ?_
  refine b_get X fl_C_31 12 rfl (v := .ref (xa σ 1)) rfl d_C_fill_19 ?_
  refine b_dV X cf_G_rules ci_G_rules ml_C_50 (ct_G_rules_ G σ ) 1 rfl rfl (As := []) (rest := [.int x3]) rfl (Nat.le_of_ble_eq_true rfl) ⟨Nat.le_of_ble_eq_true rfl, Nat.le_of_ble_eq_true rfl⟩ ⟨Nat.le_of_ble_eq_true rfl, Nat.le_of_ble_eq_true rfl⟩ rfl rfl d_C_fill_22 ?_
  refine b_icmp_ge X (tgt := 47) d_C_fill_25 (by decide) (fun _ => ?_) (fun h => absurd c25 h)
  refine b_iinc X (lv' := [(0, .ref (xa σ 12)), (1, .int x1), (2, .int (x2 + (-1))), (3, .int x3)]) d_C_fill_47 2 rfl (v := (x2 + (-1))) rfl (by decide) [1, 2, 0, 3] rfl ?_
  refine b_goto X (tgt := 11) d_C_fill_50 (by decide) ?_
  refine Lb.pick (lv' := [(0, .ref (xa σ 12)), (1, .int x1), (2, .int (x2 + (-1)))]) [0, 1, 2] rfl ?_
  exact k
theorem sg_C_fill_17_f17 {K : KX} {G : GG} {w0 : va_W} {Q : State → Prop} (X : Bd K G w0 "FirstTrees$Chart" c_C_fill 4 none rm_C_fill) (σ : St) (x1 : Int32) (x2 : Int32) (x3 : Int32) (n34 : Nat) (q38 : Sq) (c25 : ¬ (xi σ 1 0) ≤ x3) (e34 : x3 = nI n34) (h34 : n34 < 16) (t38 : Ct y_C_fillRule c_C_fillRule 10 none rm_C_fillRule G [.ref (xa σ 12), .int (xi σ 7 n34), .int x2] (WC G σ) (eqp (none) (WC G (xa σ, q38)))) (k : Lb K G w0 Q 4 17 [(0, .ref (xa σ 12)), (1, .int x1), (2, .int x2), (3, .int (x3 + 1))] [] (WC G (xa σ, q38)) 0 0) : Lb K G w0 Q 4 17 [(0, .ref (xa σ 12)), (1, .int x1), (2, .int x2), (3, .int x3)] [] (WC G σ) 0 0 := by
  refine b_iload_n X d_C_fill_17 3 rfl rfl ?_
  refine b_aload_n X d_C_fill_18 0 rfl rfl ?_
  refine b_get X fl_C_31 12 rfl (v := .ref (xa σ 1)) rfl d_C_fill_19 ?_
  refine b_dV X cf_G_rules ci_G_rules ml_C_50 (ct_G_rules_ G σ ) 1 rfl rfl (As := []) (rest := [.int x3]) rfl (Nat.le_of_ble_eq_true rfl) ⟨Nat.le_of_ble_eq_true rfl, Nat.le_of_ble_eq_true rfl⟩ ⟨Nat.le_of_ble_eq_true rfl, Nat.le_of_ble_eq_true rfl⟩ rfl rfl d_C_fill_22 ?_
  refine b_icmp_ge X (tgt := 47) d_C_fill_25 (by decide) (fun h => absurd h c25) (fun _ => ?_)
  refine b_aload_n X d_C_fill_28 0 rfl rfl ?_
  refine b_aload_n X d_C_fill_29 0 rfl rfl ?_
  refine b_get X fl_C_35 12 rfl (v := .ref (xa σ 5)) rfl d_C_fill_30 ?_
  refine b_iload_n X d_C_fill_33 3 rfl rfl ?_
  refine b_dV X cf_S_inOrder ci_S_inOrder ml_C_56 (ct_S_inOrder_ G σ x3 n34 e34 h34) 5 rfl rfl (As := [.int x3]) (rest := [.ref (xa σ 12)]) rfl (Nat.le_of_ble_eq_true rfl) ⟨Nat.le_of_ble_eq_true rfl, Nat.le_of_ble_eq_true rfl⟩ ⟨Nat.le_of_ble_eq_true rfl, Nat.le_of_ble_eq_true rfl⟩ rfl rfl d_C_fill_34 ?_
  refine b_iload_n X d_C_fill_37 2 rfl rfl ?_
  refine b_dV X cf_C_fillRule ci_C_fillRule ml_C_62 t38 12 rfl rfl (As := [.int (xi σ 7 n34), .int x2]) (rest := []) rfl (Nat.le_of_ble_eq_true rfl) ⟨Nat.le_of_ble_eq_true rfl, Nat.le_of_ble_eq_true rfl⟩ ⟨Nat.le_of_ble_eq_true rfl, Nat.le_of_ble_eq_true rfl⟩ rfl rfl d_C_fill_38 ?_
  refine b_iinc X (lv' := [(0, .ref (xa σ 12)), (1, .int x1), (2, .int x2), (3, .int (x3 + 1))]) d_C_fill_41 3 rfl (v := (x3 + 1)) rfl (by decide) [1, 2, 3, 0] rfl ?_
  refine b_goto X (tgt := 17) d_C_fill_44 (by decide) ?_
  exact k
theorem sg_C_findPlaces_0_2 {K : KX} {G : GG} {w0 : va_W} {Q : State → Prop} (X : Bd K G w0 "FirstTrees$Chart" c_C_findPlaces 2 none rm_C_findPlaces) (σ : St)    (k : Lb K G w0 Q 2 2 [(0, .ref (xa σ 12)), (1, .int 0)] [] (WC G σ) 0 0) : Lb K G w0 Q 2 0 [(0, .ref (xa σ 12))] [] (WC G σ) 0 0 := by
  refine b_iconst X (v := 0) d_C_findPlaces_0 (by decide) ?_
  refine b_istore_n X (lv' := [(0, .ref (xa σ 12)), (1, .int 0)]) d_C_findPlaces_1 rfl (by decide) [1, 0] rfl ?_
  exact k
theorem sg_C_findPlaces_2_t23 {K : KX} {G : GG} {w0 : va_W} {Q : State → Prop} (X : Bd K G w0 "FirstTrees$Chart" c_C_findPlaces 2 none rm_C_findPlaces) (σ : St) (x1 : Int32)  (c5 : 32 ≤ x1) (k : Lb K G w0 Q 2 23 [(0, .ref (xa σ 12)), (1, .int 0)] [] (WC G σ) 0 0) : Lb K G w0 Q 2 2 [(0, .ref (xa σ 12)), (1, .int x1)] [] (WC G σ) 0 0 := by
  refine b_iload_n X d_C_findPlaces_2 1 rfl rfl ?_
  refine b_bipush X (v := 32) d_C_findPlaces_3 (by decide) ?_
  refine b_icmp_ge X (tgt := 21) d_C_findPlaces_5 (by decide) (fun _ => ?_) (fun h => absurd c5 h)
  refine b_iconst X (v := 0) d_C_findPlaces_21 (by decide) ?_
  refine b_istore_n X (lv' := [(0, .ref (xa σ 12)), (1, .int 0)]) d_C_findPlaces_22 rfl (by decide) [1, 0] rfl ?_
  exact k
theorem sg_C_findPlaces_2_f2 {K : KX} {G : GG} {w0 : va_W} {Q : State → Prop} (X : Bd K G w0 "FirstTrees$Chart" c_C_findPlaces 2 none rm_C_findPlaces) (σ : St) (x1 : Int32) (n14 : Nat) (c5 : ¬ 32 ≤ x1) (e14 : x1 = nI n14) (h14 : n14 < 32) (k : Lb K G w0 Q 2 2 [(0, .ref (xa σ 12)), (1, .int (x1 + 1))] [] (WC G (wl σ 13 n14 0)) 0 0) : Lb K G w0 Q 2 2 [(0, .ref (xa σ 12)), (1, .int x1)] [] (WC G σ) 0 0 := by
  refine b_iload_n X d_C_findPlaces_2 1 rfl rfl ?_
  refine b_bipush X (v := 32) d_C_findPlaces_3 (by decide) ?_
  refine b_icmp_ge X (tgt := 21) d_C_findPlaces_5 (by decide) (fun h => absurd h c5) (fun _ => ?_)
  refine b_aload_n X d_C_findPlaces_8 0 rfl rfl ?_
  refine b_get X fl_C_9 12 rfl (v := .ref (xa σ 13)) rfl d_C_findPlaces_9 ?_
  refine b_iload_n X d_C_findPlaces_12 1 rfl rfl ?_
  refine b_lconst X (v := 0) d_C_findPlaces_13 rfl ?_
  refine b_last X 13 rfl (by decide) n14 e14 h14 (uWC_13 G σ n14 0) d_C_findPlaces_14 ?_
  refine b_iinc X (lv' := [(0, .ref (xa σ 12)), (1, .int (x1 + 1))]) d_C_findPlaces_15 1 rfl (v := (x1 + 1)) rfl (by decide) [1, 0] rfl ?_
  refine b_goto X (tgt := 2) d_C_findPlaces_18 (by decide) ?_
  exact k
theorem sg_C_findPlaces_23_tr {K : KX} {G : GG} {w0 : va_W} {post : PostT} (X : Bd K G w0 "FirstTrees$Chart" c_C_findPlaces 2 none rm_C_findPlaces) (σ : St) (x1 : Int32)  (c28 : (xi σ 12 0) ≤ x1) (hp : post none (WC G σ)) : Lb K G w0 (Qe K G w0 post rm_C_findPlaces) 2 23 [(0, .ref (xa σ 12)), (1, .int x1)] [] (WC G σ) 0 0 := by
  refine b_iload_n X d_C_findPlaces_23 1 rfl rfl ?_
  refine b_aload_n X d_C_findPlaces_24 0 rfl rfl ?_
  refine b_get X fl_C_43 12 rfl (v := .int (xi σ 12 0)) rfl d_C_findPlaces_25 ?_
  refine b_icmp_ge X (tgt := 56) d_C_findPlaces_28 (by decide) (fun _ => ?_) (fun h => absurd c28 h)
  exact b_vret X d_C_findPlaces_56 hp
theorem sg_C_findPlaces_23_f23 {K : KX} {G : GG} {w0 : va_W} {Q : State → Prop} (X : Bd K G w0 "FirstTrees$Chart" c_C_findPlaces 2 none rm_C_findPlaces) (σ : St) (x1 : Int32) (n40 : Nat) (n44 : Nat) (c28 : ¬ (xi σ 12 0) ≤ x1) (e40 : x1 = nI n40) (h40 : n40 < 60) (e44 : (xi σ 11 n40) = nI n44) (h44 : n44 < 32) (k : Lb K G w0 Q 2 23 [(0, .ref (xa σ 12)), (1, .int (x1 + 1))] [] (WC G (wl σ 13 n44 ((xl σ 13 n44) ||| (shlL 1 x1)))) 0 0) : Lb K G w0 Q 2 23 [(0, .ref (xa σ 12)), (1, .int x1)] [] (WC G σ) 0 0 := by
  refine b_iload_n X d_C_findPlaces_23 1 rfl rfl ?_
  refine b_aload_n X d_C_findPlaces_24 0 rfl rfl ?_
  refine b_get X fl_C_43 12 rfl (v := .int (xi σ 12 0)) rfl d_C_findPlaces_25 ?_
  refine b_icmp_ge X (tgt := 56) d_C_findPlaces_28 (by decide) (fun h => absurd h c28) (fun _ => ?_)
  refine b_aload_n X d_C_findPlaces_31 0 rfl rfl ?_
  refine b_get X fl_C_9 12 rfl (v := .ref (xa σ 13)) rfl d_C_findPlaces_32 ?_
  refine b_aload_n X d_C_findPlaces_35 0 rfl rfl ?_
  refine b_get X fl_C_39 12 rfl (v := .ref (xa σ 10)) rfl d_C_findPlaces_36 ?_
  refine b_iload_n X d_C_findPlaces_39 1 rfl rfl ?_
  refine b_dV X cf_I_tokenAt ci_I_tokenAt ml_C_74 (ct_I_tokenAt_ G σ x1 n40 e40 h40) 10 rfl rfl (As := [.int x1]) (rest := [.ref (xa σ 13)]) rfl (Nat.le_of_ble_eq_true rfl) ⟨Nat.le_of_ble_eq_true rfl, Nat.le_of_ble_eq_true rfl⟩ ⟨Nat.le_of_ble_eq_true rfl, Nat.le_of_ble_eq_true rfl⟩ rfl rfl d_C_findPlaces_40 ?_
  refine b_dup2 X d_C_findPlaces_43 rfl rfl ?_
  refine b_lald X 13 rfl (by decide) n44 e44 h44 d_C_findPlaces_44 ?_
  refine b_lconst X (v := 1) d_C_findPlaces_45 rfl ?_
  refine b_iload_n X d_C_findPlaces_46 1 rfl rfl ?_
  refine b_lshl X (v := (shlL 1 x1)) d_C_findPlaces_47 rfl ?_
  refine b_lor X d_C_findPlaces_48 ?_
  refine b_last X 13 rfl (by decide) n44 e44 h44 (uWC_13 G σ n44 ((xl σ 13 n44) ||| (shlL 1 x1))) d_C_findPlaces_49 ?_
  refine b_iinc X (lv' := [(0, .ref (xa σ 12)), (1, .int (x1 + 1))]) d_C_findPlaces_50 1 rfl (v := (x1 + 1)) rfl (by decide) [1, 0] rfl ?_
  refine b_goto X (tgt := 23) d_C_findPlaces_53 (by decide) ?_
  exact k
theorem sg_C_fillRule_0_11 {K : KX} {G : GG} {w0 : va_W} {Q : State → Prop} (X : Bd K G w0 "FirstTrees$Chart" c_C_fillRule 10 none rm_C_fillRule) (σ : St) (x1 : Int32) (x2 : Int32)   (k : Lb K G w0 Q 10 11 [(0, .ref (xa σ 12)), (1, .int x1), (2, .int x2), (3, .long 0), (5, .int x2), (6, .long 0), (8, .int 0)] [] (WC G σ) 0 0) : Lb K G w0 Q 10 0 [(0, .ref (xa σ 12)), (1, .int x1), (2, .int x2)] [] (WC G σ) 0 0 := by
  refine b_lconst X (v := 0) d_C_fillRule_0 rfl ?_
  refine b_lstore_n X (lv' := [(0, .ref (xa σ 12)), (1, .int x1), (2, .int x2), (3, .long 0)]) d_C_fillRule_1 rfl (by decide) [1, 2, 3, 0] rfl ?_
  refine b_iload_n X d_C_fillRule_2 2 rfl rfl ?_
  refine b_istore X (lv' := [(0, .ref (xa σ 12)), (1, .int x1), (2, .int x2), (3, .long 0), (5, .int x2)]) d_C_fillRule_3 (by decide) [1, 2, 3, 4, 0] rfl ?_
  refine b_lconst X (v := 0) d_C_fillRule_5 rfl ?_
  refine b_lstore X (lv' := [(0, .ref (xa σ 12)), (1, .int x1), (2, .int x2), (3, .long 0), (5, .int x2), (6, .long 0)]) d_C_fillRule_6 (by decide) [1, 2, 3, 4, 5, 0] rfl ?_
  refine b_iconst X (v := 0) d_C_fillRule_8 (by decide) ?_
  refine b_istore X (lv' := [(0, .ref (xa σ 12)), (1, .int x1), (2, .int x2), (3, .long 0), (5, .int x2), (6, .long 0), (8, .int 0)]) d_C_fillRule_9 (by decide) [1, 2, 3, 4, 5, 6, 0] rfl ?_
  exact k
theorem sg_C_fillRule_11_tr {K : KX} {G : GG} {w0 : va_W} {post : PostT} (X : Bd K G w0 "FirstTrees$Chart" c_C_fillRule 10 none rm_C_fillRule) (σ : St) (x1 : Int32) (x2 : Int32) (x3 : Int64) (x5 : Int32) (x6 : Int64) (x8 : Int32) (n18 : Nat) (n112 : Nat) (e18 : x1 = nI n18) (h18 : n18 < 16) (c21 : (altC σ n18) ≤ x8) (e112 : ((x1 * 61) + x2) = nI n112) (h112 : n112 < 976) (hp : post none (WC G (wl (wi (wl σ 16 n112 x3) 17 n112 x5) 18 n112 x6))) : Lb K G w0 (Qe K G w0 post rm_C_fillRule) 10 11 [(0, .ref (xa σ 12)), (1, .int x1), (2, .int x2), (3, .long x3), (5, .int x5), (6, .long x6), (8, .int x8)] [] (WC G σ) 0 0 := by
  refine b_iload X d_C_fillRule_11 6 rfl ?_
  refine b_aload_n X d_C_fillRule_13 0 rfl rfl ?_
  refine b_get X fl_C_31 12 rfl (v := .ref (xa σ 1)) rfl d_C_fillRule_14 ?_
  refine b_iload_n X d_C_fillRule_17 1 rfl rfl ?_
  refine b_dV X cf_G_alternatives ci_G_alternatives ml_C_79 (ct_G_alternatives G σ x1 n18 e18 h18) 1 rfl rfl (As := [.int x1]) (rest := [.int x8]) rfl (Nat.le_of_ble_eq_true rfl) ⟨Nat.le_of_ble_eq_true rfl, Nat.le_of_ble_eq_true rfl⟩ ⟨Nat.le_of_ble_eq_true rfl, Nat.le_of_ble_eq_true rfl⟩ rfl rfl d_C_fillRule_18 ?_
  refine b_icmp_ge X (tgt := 102) d_C_fillRule_21 (by decide) (fun _ => ?_) (fun h => absurd c21 h)
  refine b_aload_n X d_C_fillRule_102 0 rfl rfl ?_
  refine b_get X fl_C_22 12 rfl (v := .ref (xa σ 16)) rfl d_C_fillRule_103 ?_
  refine b_iload_n X d_C_fillRule_106 1 rfl rfl ?_
  refine b_iload_n X d_C_fillRule_107 2 rfl rfl ?_
  refine b_dS X cf_C_at ci_C_at ml_C_66 (ct_C_at_ G σ x1 x2) (As := [.int x1, .int x2]) (rest := [.ref (xa σ 16)]) rfl (Nat.le_of_ble_eq_true rfl) ⟨Nat.le_of_ble_eq_true rfl, Nat.le_of_ble_eq_true rfl⟩ ⟨Nat.le_of_ble_eq_true rfl, Nat.le_of_ble_eq_true rfl⟩ rfl rfl d_C_fillRule_108 ?_
  refine b_lload_n X d_C_fillRule_111 3 rfl rfl ?_
  refine b_last X 16 rfl (by decide) n112 e112 h112 (uWC_16 G σ n112 x3) d_C_fillRule_112 ?_
  refine b_aload_n X d_C_fillRule_113 0 rfl rfl ?_
  refine b_get X fl_C_25 12 rfl (v := .ref (xa σ 17)) rfl d_C_fillRule_114 ?_
  refine b_iload_n X d_C_fillRule_117 1 rfl rfl ?_
  refine b_iload_n X d_C_fillRule_118 2 rfl rfl ?_
  refine b_dS X cf_C_at ci_C_at ml_C_66 (ct_C_at_ G (wl σ 16 n112 x3) x1 x2) (As := [.int x1, .int x2]) (rest := [.ref (xa σ 17)]) rfl (Nat.le_of_ble_eq_true rfl) ⟨Nat.le_of_ble_eq_true rfl, Nat.le_of_ble_eq_true rfl⟩ ⟨Nat.le_of_ble_eq_true rfl, Nat.le_of_ble_eq_true rfl⟩ rfl rfl d_C_fillRule_119 ?_
  refine b_iload X d_C_fillRule_122 4 rfl ?_
  refine b_iast X 17 rfl (by decide) n112 e112 h112 (uWC_17 G (wl σ 16 n112 x3) n112 x5) d_C_fillRule_124 ?_
  refine b_aload_n X d_C_fillRule_125 0 rfl rfl ?_
  refine b_get X fl_C_28 12 rfl (v := .ref (xa σ 18)) rfl d_C_fillRule_126 ?_
  refine b_iload_n X d_C_fillRule_129 1 rfl rfl ?_
  refine b_iload_n X d_C_fillRule_130 2 rfl rfl ?_
  refine b_dS X cf_C_at ci_C_at ml_C_66 (ct_C_at_ G (wi (wl σ 16 n112 x3) 17 n112 x5) x1 x2) (As := [.int x1, .int x2]) (rest := [.ref (xa σ 18)]) rfl (Nat.le_of_ble_eq_true rfl) ⟨Nat.le_of_ble_eq_true rfl, Nat.le_of_ble_eq_true rfl⟩ ⟨Nat.le_of_ble_eq_true rfl, Nat.le_of_ble_eq_true rfl⟩ rfl rfl d_C_fillRule_131 ?_
  refine b_lload X d_C_fillRule_134 5 rfl ?_
  refine b_last X 18 rfl (by decide) n112 e112 h112 (uWC_18 G (wi (wl σ 16 n112 x3) 17 n112 x5) n112 x6) d_C_fillRule_136 ?_
  exact b_vret X d_C_fillRule_137 hp
theorem sg_C_fillRule_11_f11 {K : KX} {G : GG} {w0 : va_W} {Q : State → Prop} (X : Bd K G w0 "FirstTrees$Chart" c_C_fillRule 10 none rm_C_fillRule) (σ : St) (x1 : Int32) (x2 : Int32) (x3 : Int64) (x5 : Int32) (x6 : Int64) (x8 : Int32) (n18 : Nat) (q36 : Sq) (n53 : Nat) (e18 : x1 = nI n18) (h18 : n18 < 16) (c21 : ¬ (altC σ n18) ≤ x8) (t36 : Ct y_C_readRow c_C_readRow 5 none rm_C_readRow G [.ref (xa σ 12), .int ((x1 * 8) + x8), .int x2] (WC G σ) (eqp (none) (WC G (xa σ, q36)))) (e53 : ((((x1 * 8) + x8) * 61) + x2) = nI n53) (h53 : n53 < 7808) (k : Lb K G w0 Q 10 11 [(0, .ref (xa σ 12)), (1, .int x1), (2, .int x2), (3, .long (x3 ||| (xl (xa σ, q36) 12 0))), (5, .int (imax x5 (xi (xa σ, q36) 12 1))), (6, .long (x6 ||| (xl (xa σ, q36) 12 1))), (8, .int (x8 + 1))] [] (WC G (wi (wl (xa σ, q36) 14 n53 (xl (xa σ, q36) 12 0)) 15 n53 (xi (xa σ, q36) 12 1))) 0 0) : Lb K G w0 Q 10 11 [(0, .ref (xa σ 12)), (1, .int x1), (2, .int x2), (3, .long x3), (5, .int x5), (6, .long x6), (8, .int x8)] [] (WC G σ) 0 0 := by
  refine b_iload X d_C_fillRule_11 6 rfl ?_
  refine b_aload_n X d_C_fillRule_13 0 rfl rfl ?_
  refine b_get X fl_C_31 12 rfl (v := .ref (xa σ 1)) rfl d_C_fillRule_14 ?_
  refine b_iload_n X d_C_fillRule_17 1 rfl rfl ?_
  refine b_dV X cf_G_alternatives ci_G_alternatives ml_C_79 (ct_G_alternatives G σ x1 n18 e18 h18) 1 rfl rfl (As := [.int x1]) (rest := [.int x8]) rfl (Nat.le_of_ble_eq_true rfl) ⟨Nat.le_of_ble_eq_true rfl, Nat.le_of_ble_eq_true rfl⟩ ⟨Nat.le_of_ble_eq_true rfl, Nat.le_of_ble_eq_true rfl⟩ rfl rfl d_C_fillRule_18 ?_
  refine b_icmp_ge X (tgt := 102) d_C_fillRule_21 (by decide) (fun h => absurd h c21) (fun _ => ?_)
  refine b_iload_n X d_C_fillRule_24 1 rfl rfl ?_
  refine b_iload X d_C_fillRule_25 6 rfl ?_
  refine b_dS X cf_G_row ci_G_row ml_C_82 (ct_G_row_ G σ x1 x8) (As := [.int x1, .int x8]) (rest := []) rfl (Nat.le_of_ble_eq_true rfl) ⟨Nat.le_of_ble_eq_true rfl, Nat.le_of_ble_eq_true rfl⟩ ⟨Nat.le_of_ble_eq_true rfl, Nat.le_of_ble_eq_true rfl⟩ rfl rfl d_C_fillRule_27 ?_
  refine b_istore X (lv' := [(0, .ref (xa σ 12)), (1, .int x1), (2, .int x2), (3, .long x3), (5, .int x5), (6, .long x6), (8, .int x8), (9, .int ((x1 * 8) + x8))]) d_C_fillRule_30 (by decide) [1, 2, 3, 4, 5, 6, 7, 0] rfl ?_
  refine b_aload_n X d_C_fillRule_32 0 rfl rfl ?_
  refine b_iload X d_C_fillRule_33 7 rfl ?_
  refine b_iload_n X d_C_fillRule_35 2 rfl rfl ?_
  refine b_dV X cf_C_readRow ci_C_readRow ml_C_85 t36 12 rfl rfl (As := [.int ((x1 * 8) + x8), .int x2]) (rest := []) rfl (Nat.le_of_ble_eq_true rfl) ⟨Nat.le_of_ble_eq_true rfl, Nat.le_of_ble_eq_true rfl⟩ ⟨Nat.le_of_ble_eq_true rfl, Nat.le_of_ble_eq_true rfl⟩ rfl rfl d_C_fillRule_36 ?_
  refine b_aload_n X d_C_fillRule_39 0 rfl rfl ?_
  refine b_get X fl_C_15 12 rfl (v := .ref (xa σ 14)) rfl d_C_fillRule_40 ?_
  refine b_iload X d_C_fillRule_43 7 rfl ?_
  refine b_iload_n X d_C_fillRule_45 2 rfl rfl ?_
  refine b_dS X cf_C_at ci_C_at ml_C_66 (ct_C_at_ G (xa σ, q36) ((x1 * 8) + x8) x2) (As := [.int ((x1 * 8) + x8), .int x2]) (rest := [.ref (xa σ 14)]) rfl (Nat.le_of_ble_eq_true rfl) ⟨Nat.le_of_ble_eq_true rfl, Nat.le_of_ble_eq_true rfl⟩ ⟨Nat.le_of_ble_eq_true rfl, Nat.le_of_ble_eq_true rfl⟩ rfl rfl d_C_fillRule_46 ?_
  refine b_aload_n X d_C_fillRule_49 0 rfl rfl ?_
  refine b_get X fl_C_88 12 rfl (v := .long (xl (xa σ, q36) 12 0)) rfl d_C_fillRule_50 ?_
  refine b_last X 14 rfl (by decide) n53 e53 h53 (uWC_14 G (xa σ, q36) n53 (xl (xa σ, q36) 12 0)) d_C_fillRule_53 ?_
  refine b_aload_n X d_C_fillRule_54 0 rfl rfl ?_
  refine b_get X fl_C_18 12 rfl (v := .ref (xa σ 15)) rfl d_C_fillRule_55 ?_
  refine b_iload X d_C_fillRule_58 7 rfl ?_
  refine b_iload_n X d_C_fillRule_60 2 rfl rfl ?_
  refine b_dS X cf_C_at ci_C_at ml_C_66 (ct_C_at_ G (wl (xa σ, q36) 14 n53 (xl (xa σ, q36) 12 0)) ((x1 * 8) + x8) x2) (As := [.int ((x1 * 8) + x8), .int x2]) (rest := [.ref (xa σ 15)]) rfl (Nat.le_of_ble_eq_true rfl) ⟨Nat.le_of_ble_eq_true rfl, Nat.le_of_ble_eq_true rfl⟩ ⟨Nat.le_of_ble_eq_true rfl, Nat.le_of_ble_eq_true rfl⟩ rfl rfl d_C_fillRule_61 ?_
  refine b_aload_n X d_C_fillRule_64 0 rfl rfl ?_
  refine b_get X fl_C_92 12 rfl (v := .int (xi (xa σ, q36) 12 1)) rfl d_C_fillRule_65 ?_
  refine b_iast X 15 rfl (by decide) n53 e53 h53 (uWC_15 G (wl (xa σ, q36) 14 n53 (xl (xa σ, q36) 12 0)) n53 (xi (xa σ, q36) 12 1)) d_C_fillRule_68 ?_
  refine b_lload_n X d_C_fillRule_69 3 rfl rfl ?_
  refine b_aload_n X d_C_fillRule_70 0 rfl rfl ?_
  refine b_get X fl_C_88 12 rfl (v := .long (xl (xa σ, q36) 12 0)) rfl d_C_fillRule_71 ?_
  refine b_lor X d_C_fillRule_74 ?_
  refine b_lstore_n X (lv' := [(0, .ref (xa σ 12)), (1, .int x1), (2, .int x2), (3, .long (x3 ||| (xl (xa σ, q36) 12 0))), (5, .int x5), (6, .long x6), (8, .int x8), (9, .int ((x1 * 8) + x8))]) d_C_fillRule_75 rfl (by decide) [1, 2, 3, 0, 4, 5, 6, 7] rfl ?_
  refine b_iload X d_C_fillRule_76 4 rfl ?_
  refine b_aload_n X d_C_fillRule_78 0 rfl rfl ?_
  refine b_get X fl_C_92 12 rfl (v := .int (xi (xa σ, q36) 12 1)) rfl d_C_fillRule_79 ?_
  refine b_mmax X ml_C_95 ⟨Nat.le_of_ble_eq_true rfl, Nat.le_of_ble_eq_true rfl, Nat.le_of_ble_eq_true rfl, Nat.le_of_ble_eq_true rfl⟩ d_C_fillRule_82 ?_
  refine b_istore X (lv' := [(0, .ref (xa σ 12)), (1, .int x1), (2, .int x2), (3, .long (x3 ||| (xl (xa σ, q36) 12 0))), (5, .int (imax x5 (xi (xa σ, q36) 12 1))), (6, .long x6), (8, .int x8), (9, .int ((x1 * 8) + x8))]) d_C_fillRule_85 (by decide) [1, 2, 3, 4, 0, 5, 6, 7] rfl ?_
  refine b_lload X d_C_fillRule_87 5 rfl ?_
  refine b_aload_n X d_C_fillRule_89 0 rfl rfl ?_
  refine b_get X fl_C_100 12 rfl (v := .long (xl (xa σ, q36) 12 1)) rfl d_C_fillRule_90 ?_
  refine b_lor X d_C_fillRule_93 ?_
  refine b_lstore X (lv' := [(0, .ref (xa σ 12)), (1, .int x1), (2, .int x2), (3, .long (x3 ||| (xl (xa σ, q36) 12 0))), (5, .int (imax x5 (xi (xa σ, q36) 12 1))), (6, .long (x6 ||| (xl (xa σ, q36) 12 1))), (8, .int x8), (9, .int ((x1 * 8) + x8))]) d_C_fillRule_94 (by decide) [1, 2, 3, 4, 5, 0, 6, 7] rfl ?_
  refine b_iinc X (lv' := [(0, .ref (xa σ 12)), (1, .int x1), (2, .int x2), (3, .long (x3 ||| (xl (xa σ, q36) 12 0))), (5, .int (imax x5 (xi (xa σ, q36) 12 1))), (6, .long (x6 ||| (xl (xa σ, q36) 12 1))), (8, .int (x8 + 1)), (9, .int ((x1 * 8) + x8))]) d_C_fillRule_96 6 rfl (v := (x8 + 1)) rfl (by decide) [1, 2, 3, 4, 5, 6, 0, 7] rfl ?_
  refine b_goto X (tgt := 11) d_C_fillRule_99 (by decide) ?_
  refine Lb.pick (lv' := [(0, .ref (xa σ 12)), (1, .int x1), (2, .int x2), (3, .long (x3 ||| (xl (xa σ, q36) 12 0))), (5, .int (imax x5 (xi (xa σ, q36) 12 1))), (6, .long (x6 ||| (xl (xa σ, q36) 12 1))), (8, .int (x8 + 1))]) [0, 1, 2, 3, 4, 5, 6] rfl ?_
  exact k
theorem sg_C_readRow_0_19 {K : KX} {G : GG} {w0 : va_W} {Q : State → Prop} (X : Bd K G w0 "FirstTrees$Chart" c_C_readRow 5 none rm_C_readRow) (σ : St) (x1 : Int32) (x2 : Int32)   (k : Lb K G w0 Q 5 19 [(0, .ref (xa σ 12)), (1, .int x1), (2, .int x2), (3, .int 0)] [] (WC G (wl (wi (wl σ 12 0 (shlL 1 x2)) 12 1 x2) 12 1 0)) 0 0) : Lb K G w0 Q 5 0 [(0, .ref (xa σ 12)), (1, .int x1), (2, .int x2)] [] (WC G σ) 0 0 := by
  refine b_aload_n X d_C_readRow_0 0 rfl rfl ?_
  refine b_lconst X (v := 1) d_C_readRow_1 rfl ?_
  refine b_iload_n X d_C_readRow_2 2 rfl rfl ?_
  refine b_lshl X (v := (shlL 1 x2)) d_C_readRow_3 rfl ?_
  refine b_put X fl_C_88 pl_C_here 12 rfl rfl rfl (Nat.le_of_ble_eq_true rfl) (uWC_12_here G σ (shlL 1 x2)) d_C_readRow_4 ?_
  refine b_aload_n X d_C_readRow_7 0 rfl rfl ?_
  refine b_iload_n X d_C_readRow_8 2 rfl rfl ?_
  refine b_put X fl_C_92 pl_C_far 12 rfl rfl rfl (Nat.le_of_ble_eq_true rfl) (uWC_12_far G (wl σ 12 0 (shlL 1 x2)) x2) d_C_readRow_9 ?_
  refine b_aload_n X d_C_readRow_12 0 rfl rfl ?_
  refine b_lconst X (v := 0) d_C_readRow_13 rfl ?_
  refine b_put X fl_C_100 pl_C_soon 12 rfl rfl rfl (Nat.le_of_ble_eq_true rfl) (uWC_12_soon G (wi (wl σ 12 0 (shlL 1 x2)) 12 1 x2) 0) d_C_readRow_14 ?_
  refine b_iconst X (v := 0) d_C_readRow_17 (by decide) ?_
  refine b_istore_n X (lv' := [(0, .ref (xa σ 12)), (1, .int x1), (2, .int x2), (3, .int 0)]) d_C_readRow_18 rfl (by decide) [1, 2, 3, 0] rfl ?_
  exact k
theorem sg_C_readRow_19_tr {K : KX} {G : GG} {w0 : va_W} {post : PostT} (X : Bd K G w0 "FirstTrees$Chart" c_C_readRow 5 none rm_C_readRow) (σ : St) (x1 : Int32) (x2 : Int32) (x3 : Int32) (n25 : Nat) (e25 : x1 = nI n25) (h25 : n25 < 128) (c28 : (xi σ 3 n25) ≤ x3) (hp : post none (WC G σ)) : Lb K G w0 (Qe K G w0 post rm_C_readRow) 5 19 [(0, .ref (xa σ 12)), (1, .int x1), (2, .int x2), (3, .int x3)] [] (WC G σ) 0 0 := by
  refine b_iload_n X d_C_readRow_19 3 rfl rfl ?_
  refine b_aload_n X d_C_readRow_20 0 rfl rfl ?_
  refine b_get X fl_C_31 12 rfl (v := .ref (xa σ 1)) rfl d_C_readRow_21 ?_
  refine b_iload_n X d_C_readRow_24 1 rfl rfl ?_
  refine b_dV X cf_G_length ci_G_length ml_C_103 (ct_G_length_ G σ x1 n25 e25 h25) 1 rfl rfl (As := [.int x1]) (rest := [.int x3]) rfl (Nat.le_of_ble_eq_true rfl) ⟨Nat.le_of_ble_eq_true rfl, Nat.le_of_ble_eq_true rfl⟩ ⟨Nat.le_of_ble_eq_true rfl, Nat.le_of_ble_eq_true rfl⟩ rfl rfl d_C_readRow_25 ?_
  refine b_icmp_ge X (tgt := 84) d_C_readRow_28 (by decide) (fun _ => ?_) (fun h => absurd c28 h)
  exact b_vret X d_C_readRow_84 hp
theorem sg_C_readRow_19_ftr {K : KX} {G : GG} {w0 : va_W} {post : PostT} (X : Bd K G w0 "FirstTrees$Chart" c_C_readRow 5 none rm_C_readRow) (σ : St) (x1 : Int32) (x2 : Int32) (x3 : Int32) (n25 : Nat) (e25 : x1 = nI n25) (h25 : n25 < 128) (c28 : ¬ (xi σ 3 n25) ≤ x3) (c36 : (xl σ 12 0) = 0) (hp : post none (WC G σ)) : Lb K G w0 (Qe K G w0 post rm_C_readRow) 5 19 [(0, .ref (xa σ 12)), (1, .int x1), (2, .int x2), (3, .int x3)] [] (WC G σ) 0 0 := by
  refine b_iload_n X d_C_readRow_19 3 rfl rfl ?_
  refine b_aload_n X d_C_readRow_20 0 rfl rfl ?_
  refine b_get X fl_C_31 12 rfl (v := .ref (xa σ 1)) rfl d_C_readRow_21 ?_
  refine b_iload_n X d_C_readRow_24 1 rfl rfl ?_
  refine b_dV X cf_G_length ci_G_length ml_C_103 (ct_G_length_ G σ x1 n25 e25 h25) 1 rfl rfl (As := [.int x1]) (rest := [.int x3]) rfl (Nat.le_of_ble_eq_true rfl) ⟨Nat.le_of_ble_eq_true rfl, Nat.le_of_ble_eq_true rfl⟩ ⟨Nat.le_of_ble_eq_true rfl, Nat.le_of_ble_eq_true rfl⟩ rfl rfl d_C_readRow_25 ?_
  refine b_icmp_ge X (tgt := 84) d_C_readRow_28 (by decide) (fun h => absurd h c28) (fun _ => ?_)
  refine b_aload_n X d_C_readRow_31 0 rfl rfl ?_
  refine b_get X fl_C_88 12 rfl (v := .long (xl σ 12 0)) rfl d_C_readRow_32 ?_
  refine b_lconst X (v := 0) d_C_readRow_35 rfl ?_
  refine b_l_eq X (tgt := 84) d_C_readRow_36 d_C_readRow_37 (by decide) (fun _ => ?_) (fun h => absurd c36 h)
  exact b_vret X d_C_readRow_84 hp
theorem sg_C_readRow_19_fft19 {K : KX} {G : GG} {w0 : va_W} {Q : State → Prop} (X : Bd K G w0 "FirstTrees$Chart" c_C_readRow 5 none rm_C_readRow) (σ : St) (x1 : Int32) (x2 : Int32) (x3 : Int32) (n25 : Nat) (n46 : Nat) (q75 : Sq) (e25 : x1 = nI n25) (h25 : n25 < 128) (c28 : ¬ (xi σ 3 n25) ≤ x3) (c36 : ¬ (xl σ 12 0) = 0) (e46 : ((x1 * 8) + x3) = nI n46) (h46 : n46 < 1024) (c56 : (b2i (0 ≤ (xi σ 4 n46))) = 0) (t75 : Ct y_C_readRule c_C_readRule 7 none rm_C_readRule G [.ref (xa σ 12), .int ((-1) - (xi σ 4 n46)), .int x2] (WC G σ) (eqp (none) (WC G (xa σ, q75)))) (k : Lb K G w0 Q 5 19 [(0, .ref (xa σ 12)), (1, .int x1), (2, .int x2), (3, .int (x3 + 1))] [] (WC G (xa σ, q75)) 0 0) : Lb K G w0 Q 5 19 [(0, .ref (xa σ 12)), (1, .int x1), (2, .int x2), (3, .int x3)] [] (WC G σ) 0 0 := by
  refine b_iload_n X d_C_readRow_19 3 rfl rfl ?_
  refine b_aload_n X d_C_readRow_20 0 rfl rfl ?_
  refine b_get X fl_C_31 12 rfl (v := .ref (xa σ 1)) rfl d_C_readRow_21 ?_
  refine b_iload_n X d_C_readRow_24 1 rfl rfl ?_
  refine b_dV X cf_G_length ci_G_length ml_C_103 (ct_G_length_ G σ x1 n25 e25 h25) 1 rfl rfl (As := [.int x1]) (rest := [.int x3]) rfl (Nat.le_of_ble_eq_true rfl) ⟨Nat.le_of_ble_eq_true rfl, Nat.le_of_ble_eq_true rfl⟩ ⟨Nat.le_of_ble_eq_true rfl, Nat.le_of_ble_eq_true rfl⟩ rfl rfl d_C_readRow_25 ?_
  refine b_icmp_ge X (tgt := 84) d_C_readRow_28 (by decide) (fun h => absurd h c28) (fun _ => ?_)
  refine b_aload_n X d_C_readRow_31 0 rfl rfl ?_
  refine b_get X fl_C_88 12 rfl (v := .long (xl σ 12 0)) rfl d_C_readRow_32 ?_
  refine b_lconst X (v := 0) d_C_readRow_35 rfl ?_
  refine b_l_eq X (tgt := 84) d_C_readRow_36 d_C_readRow_37 (by decide) (fun h => absurd h c36) (fun _ => ?_)
  refine b_aload_n X d_C_readRow_40 0 rfl rfl ?_
  refine b_get X fl_C_31 12 rfl (v := .ref (xa σ 1)) rfl d_C_readRow_41 ?_
  refine b_iload_n X d_C_readRow_44 1 rfl rfl ?_
  refine b_iload_n X d_C_readRow_45 3 rfl rfl ?_
  refine b_dV X cf_G_symbolAt ci_G_symbolAt ml_C_106 (ct_G_symbolAt_ G σ x1 x3 n46 e46 h46) 1 rfl rfl (As := [.int x1, .int x3]) (rest := []) rfl (Nat.le_of_ble_eq_true rfl) ⟨Nat.le_of_ble_eq_true rfl, Nat.le_of_ble_eq_true rfl⟩ ⟨Nat.le_of_ble_eq_true rfl, Nat.le_of_ble_eq_true rfl⟩ rfl rfl d_C_readRow_46 ?_
  refine b_istore X (lv' := [(0, .ref (xa σ 12)), (1, .int x1), (2, .int x2), (3, .int x3), (4, .int (xi σ 4 n46))]) d_C_readRow_49 (by decide) [1, 2, 3, 4, 0] rfl ?_
  refine b_iload X d_C_readRow_51 4 rfl ?_
  refine b_dS X cf_G_isToken ci_G_isToken ml_C_109 (ct_G_isToken G σ (xi σ 4 n46)) (As := [.int (xi σ 4 n46)]) (rest := []) rfl (Nat.le_of_ble_eq_true rfl) ⟨Nat.le_of_ble_eq_true rfl, Nat.le_of_ble_eq_true rfl⟩ ⟨Nat.le_of_ble_eq_true rfl, Nat.le_of_ble_eq_true rfl⟩ rfl rfl d_C_readRow_53 ?_
  refine b_if_eq X (tgt := 68) d_C_readRow_56 (by decide) (fun _ => ?_) (fun h => absurd c56 h)
  refine b_aload_n X d_C_readRow_68 0 rfl rfl ?_
  refine b_iload X d_C_readRow_69 4 rfl ?_
  refine b_dS X cf_G_ruleOf ci_G_ruleOf ml_C_117 (ct_G_ruleOf_ G σ (xi σ 4 n46)) (As := [.int (xi σ 4 n46)]) (rest := [.ref (xa σ 12)]) rfl (Nat.le_of_ble_eq_true rfl) ⟨Nat.le_of_ble_eq_true rfl, Nat.le_of_ble_eq_true rfl⟩ ⟨Nat.le_of_ble_eq_true rfl, Nat.le_of_ble_eq_true rfl⟩ rfl rfl d_C_readRow_71 ?_
  refine b_iload_n X d_C_readRow_74 2 rfl rfl ?_
  refine b_dV X cf_C_readRule ci_C_readRule ml_C_120 t75 12 rfl rfl (As := [.int ((-1) - (xi σ 4 n46)), .int x2]) (rest := []) rfl (Nat.le_of_ble_eq_true rfl) ⟨Nat.le_of_ble_eq_true rfl, Nat.le_of_ble_eq_true rfl⟩ ⟨Nat.le_of_ble_eq_true rfl, Nat.le_of_ble_eq_true rfl⟩ rfl rfl d_C_readRow_75 ?_
  refine b_iinc X (lv' := [(0, .ref (xa σ 12)), (1, .int x1), (2, .int x2), (3, .int (x3 + 1)), (4, .int (xi σ 4 n46))]) d_C_readRow_78 3 rfl (v := (x3 + 1)) rfl (by decide) [1, 2, 3, 0, 4] rfl ?_
  refine b_goto X (tgt := 19) d_C_readRow_81 (by decide) ?_
  refine Lb.pick (lv' := [(0, .ref (xa σ 12)), (1, .int x1), (2, .int x2), (3, .int (x3 + 1))]) [0, 1, 2, 3] rfl ?_
  exact k
theorem sg_C_readRow_19_fff19 {K : KX} {G : GG} {w0 : va_W} {Q : State → Prop} (X : Bd K G w0 "FirstTrees$Chart" c_C_readRow 5 none rm_C_readRow) (σ : St) (x1 : Int32) (x2 : Int32) (x3 : Int32) (n25 : Nat) (n46 : Nat) (q62 : Sq) (e25 : x1 = nI n25) (h25 : n25 < 128) (c28 : ¬ (xi σ 3 n25) ≤ x3) (c36 : ¬ (xl σ 12 0) = 0) (e46 : ((x1 * 8) + x3) = nI n46) (h46 : n46 < 1024) (c56 : ¬ (b2i (0 ≤ (xi σ 4 n46))) = 0) (t62 : Ct y_C_readToken c_C_readToken 3 none rm_C_readToken G [.ref (xa σ 12), .int (xi σ 4 n46)] (WC G σ) (eqp (none) (WC G (xa σ, q62)))) (k : Lb K G w0 Q 5 19 [(0, .ref (xa σ 12)), (1, .int x1), (2, .int x2), (3, .int (x3 + 1))] [] (WC G (xa σ, q62)) 0 0) : Lb K G w0 Q 5 19 [(0, .ref (xa σ 12)), (1, .int x1), (2, .int x2), (3, .int x3)] [] (WC G σ) 0 0 := by
  refine b_iload_n X d_C_readRow_19 3 rfl rfl ?_
  refine b_aload_n X d_C_readRow_20 0 rfl rfl ?_
  refine b_get X fl_C_31 12 rfl (v := .ref (xa σ 1)) rfl d_C_readRow_21 ?_
  refine b_iload_n X d_C_readRow_24 1 rfl rfl ?_
  refine b_dV X cf_G_length ci_G_length ml_C_103 (ct_G_length_ G σ x1 n25 e25 h25) 1 rfl rfl (As := [.int x1]) (rest := [.int x3]) rfl (Nat.le_of_ble_eq_true rfl) ⟨Nat.le_of_ble_eq_true rfl, Nat.le_of_ble_eq_true rfl⟩ ⟨Nat.le_of_ble_eq_true rfl, Nat.le_of_ble_eq_true rfl⟩ rfl rfl d_C_readRow_25 ?_
  refine b_icmp_ge X (tgt := 84) d_C_readRow_28 (by decide) (fun h => absurd h c28) (fun _ => ?_)
  refine b_aload_n X d_C_readRow_31 0 rfl rfl ?_
  refine b_get X fl_C_88 12 rfl (v := .long (xl σ 12 0)) rfl d_C_readRow_32 ?_
  refine b_lconst X (v := 0) d_C_readRow_35 rfl ?_
  refine b_l_eq X (tgt := 84) d_C_readRow_36 d_C_readRow_37 (by decide) (fun h => absurd h c36) (fun _ => ?_)
  refine b_aload_n X d_C_readRow_40 0 rfl rfl ?_
  refine b_get X fl_C_31 12 rfl (v := .ref (xa σ 1)) rfl d_C_readRow_41 ?_
  refine b_iload_n X d_C_readRow_44 1 rfl rfl ?_
  refine b_iload_n X d_C_readRow_45 3 rfl rfl ?_
  refine b_dV X cf_G_symbolAt ci_G_symbolAt ml_C_106 (ct_G_symbolAt_ G σ x1 x3 n46 e46 h46) 1 rfl rfl (As := [.int x1, .int x3]) (rest := []) rfl (Nat.le_of_ble_eq_true rfl) ⟨Nat.le_of_ble_eq_true rfl, Nat.le_of_ble_eq_true rfl⟩ ⟨Nat.le_of_ble_eq_true rfl, Nat.le_of_ble_eq_true rfl⟩ rfl rfl d_C_readRow_46 ?_
  refine b_istore X (lv' := [(0, .ref (xa σ 12)), (1, .int x1), (2, .int x2), (3, .int x3), (4, .int (xi σ 4 n46))]) d_C_readRow_49 (by decide) [1, 2, 3, 4, 0] rfl ?_
  refine b_iload X d_C_readRow_51 4 rfl ?_
  refine b_dS X cf_G_isToken ci_G_isToken ml_C_109 (ct_G_isToken G σ (xi σ 4 n46)) (As := [.int (xi σ 4 n46)]) (rest := []) rfl (Nat.le_of_ble_eq_true rfl) ⟨Nat.le_of_ble_eq_true rfl, Nat.le_of_ble_eq_true rfl⟩ ⟨Nat.le_of_ble_eq_true rfl, Nat.le_of_ble_eq_true rfl⟩ rfl rfl d_C_readRow_53 ?_
  refine b_if_eq X (tgt := 68) d_C_readRow_56 (by decide) (fun h => absurd h c56) (fun _ => ?_)
  refine b_aload_n X d_C_readRow_59 0 rfl rfl ?_
  refine b_iload X d_C_readRow_60 4 rfl ?_
  refine b_dV X cf_C_readToken ci_C_readToken ml_C_113 t62 12 rfl rfl (As := [.int (xi σ 4 n46)]) (rest := []) rfl (Nat.le_of_ble_eq_true rfl) ⟨Nat.le_of_ble_eq_true rfl, Nat.le_of_ble_eq_true rfl⟩ ⟨Nat.le_of_ble_eq_true rfl, Nat.le_of_ble_eq_true rfl⟩ rfl rfl d_C_readRow_62 ?_
  refine b_goto X (tgt := 78) d_C_readRow_65 (by decide) ?_
  refine b_iinc X (lv' := [(0, .ref (xa σ 12)), (1, .int x1), (2, .int x2), (3, .int (x3 + 1)), (4, .int (xi σ 4 n46))]) d_C_readRow_78 3 rfl (v := (x3 + 1)) rfl (by decide) [1, 2, 3, 0, 4] rfl ?_
  refine b_goto X (tgt := 19) d_C_readRow_81 (by decide) ?_
  refine Lb.pick (lv' := [(0, .ref (xa σ 12)), (1, .int x1), (2, .int x2), (3, .int (x3 + 1))]) [0, 1, 2, 3] rfl ?_
  exact k
theorem sg_C_readToken_0_t50 {K : KX} {G : GG} {w0 : va_W} {Q : State → Prop} (X : Bd K G w0 "FirstTrees$Chart" c_C_readToken 3 none rm_C_readToken) (σ : St) (x1 : Int32) (n36 : Nat) (c11 : (hasB (xl σ 12 0) (xi σ 12 0)) = 0) (e36 : x1 = nI n36) (h36 : n36 < 32) (k : Lb K G w0 Q 3 50 [(0, .ref (xa σ 12)), (1, .int x1), (2, .int ((xi σ 12 1) + 1))] [] (WC G (wl σ 12 0 (shlL ((xl σ 12 0) &&& (xl σ 13 n36)) 1))) 0 0) : Lb K G w0 Q 3 0 [(0, .ref (xa σ 12)), (1, .int x1)] [] (WC G σ) 0 0 := by
  refine b_aload_n X d_C_readToken_0 0 rfl rfl ?_
  refine b_get X fl_C_88 12 rfl (v := .long (xl σ 12 0)) rfl d_C_readToken_1 ?_
  refine b_aload_n X d_C_readToken_4 0 rfl rfl ?_
  refine b_get X fl_C_43 12 rfl (v := .int (xi σ 12 0)) rfl d_C_readToken_5 ?_
  refine b_dSN X cf_F_has ci_F_has mn_C_70 (ct_F_has G σ (xl σ 12 0) (xi σ 12 0)) (As := [.long (xl σ 12 0), .int (xi σ 12 0)]) (rest := []) rfl (Nat.le_of_ble_eq_true rfl) ⟨Nat.le_of_ble_eq_true rfl, Nat.le_of_ble_eq_true rfl⟩ ⟨Nat.le_of_ble_eq_true rfl, Nat.le_of_ble_eq_true rfl⟩ rfl rfl d_C_readToken_8 ?_
  refine b_if_eq X (tgt := 26) d_C_readToken_11 (by decide) (fun _ => ?_) (fun h => absurd c11 h)
  refine b_aload_n X d_C_readToken_26 0 rfl rfl ?_
  refine b_aload_n X d_C_readToken_27 0 rfl rfl ?_
  refine b_get X fl_C_88 12 rfl (v := .long (xl σ 12 0)) rfl d_C_readToken_28 ?_
  refine b_aload_n X d_C_readToken_31 0 rfl rfl ?_
  refine b_get X fl_C_9 12 rfl (v := .ref (xa σ 13)) rfl d_C_readToken_32 ?_
  refine b_iload_n X d_C_readToken_35 1 rfl rfl ?_
  refine b_lald X 13 rfl (by decide) n36 e36 h36 d_C_readToken_36 ?_
  refine b_land X d_C_readToken_37 ?_
  refine b_iconst X (v := 1) d_C_readToken_38 (by decide) ?_
  refine b_lshl X (v := (shlL ((xl σ 12 0) &&& (xl σ 13 n36)) 1)) d_C_readToken_39 rfl ?_
  refine b_put X fl_C_88 pl_C_here 12 rfl rfl rfl (Nat.le_of_ble_eq_true rfl) (uWC_12_here G σ (shlL ((xl σ 12 0) &&& (xl σ 13 n36)) 1)) d_C_readToken_40 ?_
  refine b_aload_n X d_C_readToken_43 0 rfl rfl ?_
  refine b_get X fl_C_92 12 rfl (v := .int (xi σ 12 1)) rfl d_C_readToken_44 ?_
  refine b_iconst X (v := 1) d_C_readToken_47 (by decide) ?_
  refine b_iadd X d_C_readToken_48 ?_
  refine b_istore_n X (lv' := [(0, .ref (xa σ 12)), (1, .int x1), (2, .int ((xi σ 12 1) + 1))]) d_C_readToken_49 rfl (by decide) [1, 2, 0] rfl ?_
  exact k
theorem sg_C_readToken_0_f50 {K : KX} {G : GG} {w0 : va_W} {Q : State → Prop} (X : Bd K G w0 "FirstTrees$Chart" c_C_readToken 3 none rm_C_readToken) (σ : St) (x1 : Int32) (n36 : Nat) (c11 : ¬ (hasB (xl σ 12 0) (xi σ 12 0)) = 0) (e36 : x1 = nI n36) (h36 : n36 < 32) (k : Lb K G w0 Q 3 50 [(0, .ref (xa σ 12)), (1, .int x1), (2, .int ((xi σ 12 1) + 1))] [] (WC G (wl (wl σ 12 1 ((xl σ 12 1) ||| (shlL 1 x1))) 12 0 (shlL ((xl σ 12 0) &&& (xl σ 13 n36)) 1))) 0 0) : Lb K G w0 Q 3 0 [(0, .ref (xa σ 12)), (1, .int x1)] [] (WC G σ) 0 0 := by
  refine b_aload_n X d_C_readToken_0 0 rfl rfl ?_
  refine b_get X fl_C_88 12 rfl (v := .long (xl σ 12 0)) rfl d_C_readToken_1 ?_
  refine b_aload_n X d_C_readToken_4 0 rfl rfl ?_
  refine b_get X fl_C_43 12 rfl (v := .int (xi σ 12 0)) rfl d_C_readToken_5 ?_
  refine b_dSN X cf_F_has ci_F_has mn_C_70 (ct_F_has G σ (xl σ 12 0) (xi σ 12 0)) (As := [.long (xl σ 12 0), .int (xi σ 12 0)]) (rest := []) rfl (Nat.le_of_ble_eq_true rfl) ⟨Nat.le_of_ble_eq_true rfl, Nat.le_of_ble_eq_true rfl⟩ ⟨Nat.le_of_ble_eq_true rfl, Nat.le_of_ble_eq_true rfl⟩ rfl rfl d_C_readToken_8 ?_
  refine b_if_eq X (tgt := 26) d_C_readToken_11 (by decide) (fun h => absurd h c11) (fun _ => ?_)
  refine b_aload_n X d_C_readToken_14 0 rfl rfl ?_
  refine b_dup X d_C_readToken_15 rfl ?_
  refine b_get X fl_C_100 12 rfl (v := .long (xl σ 12 1)) rfl d_C_readToken_16 ?_
  refine b_lconst X (v := 1) d_C_readToken_19 rfl ?_
  refine b_iload_n X d_C_readToken_20 1 rfl rfl ?_
  refine b_lshl X (v := (shlL 1 x1)) d_C_readToken_21 rfl ?_
  refine b_lor X d_C_readToken_22 ?_
  refine b_put X fl_C_100 pl_C_soon 12 rfl rfl rfl (Nat.le_of_ble_eq_true rfl) (uWC_12_soon G σ ((xl σ 12 1) ||| (shlL 1 x1))) d_C_readToken_23 ?_
  refine b_aload_n X d_C_readToken_26 0 rfl rfl ?_
  refine b_aload_n X d_C_readToken_27 0 rfl rfl ?_
  refine b_get X fl_C_88 12 rfl (v := .long (xl σ 12 0)) rfl d_C_readToken_28 ?_
  refine b_aload_n X d_C_readToken_31 0 rfl rfl ?_
  refine b_get X fl_C_9 12 rfl (v := .ref (xa σ 13)) rfl d_C_readToken_32 ?_
  refine b_iload_n X d_C_readToken_35 1 rfl rfl ?_
  refine b_lald X 13 rfl (by decide) n36 e36 h36 d_C_readToken_36 ?_
  refine b_land X d_C_readToken_37 ?_
  refine b_iconst X (v := 1) d_C_readToken_38 (by decide) ?_
  refine b_lshl X (v := (shlL ((xl σ 12 0) &&& (xl σ 13 n36)) 1)) d_C_readToken_39 rfl ?_
  refine b_put X fl_C_88 pl_C_here 12 rfl rfl rfl (Nat.le_of_ble_eq_true rfl) (uWC_12_here G (wl σ 12 1 ((xl σ 12 1) ||| (shlL 1 x1))) (shlL ((xl σ 12 0) &&& (xl σ 13 n36)) 1)) d_C_readToken_40 ?_
  refine b_aload_n X d_C_readToken_43 0 rfl rfl ?_
  refine b_get X fl_C_92 12 rfl (v := .int (xi σ 12 1)) rfl d_C_readToken_44 ?_
  refine b_iconst X (v := 1) d_C_readToken_47 (by decide) ?_
  refine b_iadd X d_C_readToken_48 ?_
  refine b_istore_n X (lv' := [(0, .ref (xa σ 12)), (1, .int x1), (2, .int ((xi σ 12 1) + 1))]) d_C_readToken_49 rfl (by decide) [1, 2, 0] rfl ?_
  exact k
theorem sg_C_readToken_50_tr {K : KX} {G : GG} {w0 : va_W} {post : PostT} (X : Bd K G w0 "FirstTrees$Chart" c_C_readToken 3 none rm_C_readToken) (σ : St) (x1 : Int32) (x2 : Int32)  (c55 : (xi σ 12 0) < x2) (hp : post none (WC G σ)) : Lb K G w0 (Qe K G w0 post rm_C_readToken) 3 50 [(0, .ref (xa σ 12)), (1, .int x1), (2, .int x2)] [] (WC G σ) 0 0 := by
  refine b_iload_n X d_C_readToken_50 2 rfl rfl ?_
  refine b_aload_n X d_C_readToken_51 0 rfl rfl ?_
  refine b_get X fl_C_43 12 rfl (v := .int (xi σ 12 0)) rfl d_C_readToken_52 ?_
  refine b_icmp_gt X (tgt := 80) d_C_readToken_55 (by decide) (fun _ => ?_) (fun h => absurd c55 h)
  exact b_vret X d_C_readToken_80 hp
theorem sg_C_readToken_50_ftr {K : KX} {G : GG} {w0 : va_W} {post : PostT} (X : Bd K G w0 "FirstTrees$Chart" c_C_readToken 3 none rm_C_readToken) (σ : St) (x1 : Int32) (x2 : Int32)  (c55 : ¬ (xi σ 12 0) < x2) (c65 : (ushrL (xl σ 12 0) x2) = 0) (hp : post none (WC G σ)) : Lb K G w0 (Qe K G w0 post rm_C_readToken) 3 50 [(0, .ref (xa σ 12)), (1, .int x1), (2, .int x2)] [] (WC G σ) 0 0 := by
  refine b_iload_n X d_C_readToken_50 2 rfl rfl ?_
  refine b_aload_n X d_C_readToken_51 0 rfl rfl ?_
  refine b_get X fl_C_43 12 rfl (v := .int (xi σ 12 0)) rfl d_C_readToken_52 ?_
  refine b_icmp_gt X (tgt := 80) d_C_readToken_55 (by decide) (fun h => absurd h c55) (fun _ => ?_)
  refine b_aload_n X d_C_readToken_58 0 rfl rfl ?_
  refine b_get X fl_C_88 12 rfl (v := .long (xl σ 12 0)) rfl d_C_readToken_59 ?_
  refine b_iload_n X d_C_readToken_62 2 rfl rfl ?_
  refine b_lushr X (v := (ushrL (xl σ 12 0) x2)) d_C_readToken_63 rfl ?_
  refine b_lconst X (v := 0) d_C_readToken_64 rfl ?_
  refine b_l_eq X (tgt := 80) d_C_readToken_65 d_C_readToken_66 (by decide) (fun _ => ?_) (fun h => absurd c65 h)
  exact b_vret X d_C_readToken_80 hp
theorem sg_C_readToken_50_ff50 {K : KX} {G : GG} {w0 : va_W} {Q : State → Prop} (X : Bd K G w0 "FirstTrees$Chart" c_C_readToken 3 none rm_C_readToken) (σ : St) (x1 : Int32) (x2 : Int32)  (c55 : ¬ (xi σ 12 0) < x2) (c65 : ¬ (ushrL (xl σ 12 0) x2) = 0) (k : Lb K G w0 Q 3 50 [(0, .ref (xa σ 12)), (1, .int x1), (2, .int (x2 + 1))] [] (WC G (wi σ 12 1 x2)) 0 0) : Lb K G w0 Q 3 50 [(0, .ref (xa σ 12)), (1, .int x1), (2, .int x2)] [] (WC G σ) 0 0 := by
  refine b_iload_n X d_C_readToken_50 2 rfl rfl ?_
  refine b_aload_n X d_C_readToken_51 0 rfl rfl ?_
  refine b_get X fl_C_43 12 rfl (v := .int (xi σ 12 0)) rfl d_C_readToken_52 ?_
  refine b_icmp_gt X (tgt := 80) d_C_readToken_55 (by decide) (fun h => absurd h c55) (fun _ => ?_)
  refine b_aload_n X d_C_readToken_58 0 rfl rfl ?_
  refine b_get X fl_C_88 12 rfl (v := .long (xl σ 12 0)) rfl d_C_readToken_59 ?_
  refine b_iload_n X d_C_readToken_62 2 rfl rfl ?_
  refine b_lushr X (v := (ushrL (xl σ 12 0) x2)) d_C_readToken_63 rfl ?_
  refine b_lconst X (v := 0) d_C_readToken_64 rfl ?_
  refine b_l_eq X (tgt := 80) d_C_readToken_65 d_C_readToken_66 (by decide) (fun h => absurd h c65) (fun _ => ?_)
  refine b_aload_n X d_C_readToken_69 0 rfl rfl ?_
  refine b_iload_n X d_C_readToken_70 2 rfl rfl ?_
  refine b_put X fl_C_92 pl_C_far 12 rfl rfl rfl (Nat.le_of_ble_eq_true rfl) (uWC_12_far G σ x2) d_C_readToken_71 ?_
  refine b_iinc X (lv' := [(0, .ref (xa σ 12)), (1, .int x1), (2, .int (x2 + 1))]) d_C_readToken_74 2 rfl (v := (x2 + 1)) rfl (by decide) [1, 2, 0] rfl ?_
  refine b_goto X (tgt := 50) d_C_readToken_77 (by decide) ?_
  exact k
theorem sg_C_readRule_0_5 {K : KX} {G : GG} {w0 : va_W} {Q : State → Prop} (X : Bd K G w0 "FirstTrees$Chart" c_C_readRule 7 none rm_C_readRule) (σ : St) (x1 : Int32) (x2 : Int32)   (k : Lb K G w0 Q 7 5 [(0, .ref (xa σ 12)), (1, .int x1), (2, .int x2), (3, .long 0), (5, .int x2)] [] (WC G σ) 0 0) : Lb K G w0 Q 7 0 [(0, .ref (xa σ 12)), (1, .int x1), (2, .int x2)] [] (WC G σ) 0 0 := by
  refine b_lconst X (v := 0) d_C_readRule_0 rfl ?_
  refine b_lstore_n X (lv' := [(0, .ref (xa σ 12)), (1, .int x1), (2, .int x2), (3, .long 0)]) d_C_readRule_1 rfl (by decide) [1, 2, 3, 0] rfl ?_
  refine b_iload_n X d_C_readRule_2 2 rfl rfl ?_
  refine b_istore X (lv' := [(0, .ref (xa σ 12)), (1, .int x1), (2, .int x2), (3, .long 0), (5, .int x2)]) d_C_readRule_3 (by decide) [1, 2, 3, 4, 0] rfl ?_
  exact k
theorem sg_C_readRule_5_tr {K : KX} {G : GG} {w0 : va_W} {post : PostT} (X : Bd K G w0 "FirstTrees$Chart" c_C_readRule 7 none rm_C_readRule) (σ : St) (x1 : Int32) (x2 : Int32) (x3 : Int64) (x5 : Int32)  (c11 : (xi σ 12 0) < x5) (hp : post none (WC G (wl σ 12 0 x3))) : Lb K G w0 (Qe K G w0 post rm_C_readRule) 7 5 [(0, .ref (xa σ 12)), (1, .int x1), (2, .int x2), (3, .long x3), (5, .int x5)] [] (WC G σ) 0 0 := by
  refine b_iload X d_C_readRule_5 4 rfl ?_
  refine b_aload_n X d_C_readRule_7 0 rfl rfl ?_
  refine b_get X fl_C_43 12 rfl (v := .int (xi σ 12 0)) rfl d_C_readRule_8 ?_
  refine b_icmp_gt X (tgt := 96) d_C_readRule_11 (by decide) (fun _ => ?_) (fun h => absurd c11 h)
  refine b_aload_n X d_C_readRule_96 0 rfl rfl ?_
  refine b_lload_n X d_C_readRule_97 3 rfl rfl ?_
  refine b_put X fl_C_88 pl_C_here 12 rfl rfl rfl (Nat.le_of_ble_eq_true rfl) (uWC_12_here G σ x3) d_C_readRule_98 ?_
  exact b_vret X d_C_readRule_101 hp
theorem sg_C_readRule_5_ftr {K : KX} {G : GG} {w0 : va_W} {post : PostT} (X : Bd K G w0 "FirstTrees$Chart" c_C_readRule 7 none rm_C_readRule) (σ : St) (x1 : Int32) (x2 : Int32) (x3 : Int64) (x5 : Int32)  (c11 : ¬ (xi σ 12 0) < x5) (c22 : (ushrL (xl σ 12 0) x5) = 0) (hp : post none (WC G (wl σ 12 0 x3))) : Lb K G w0 (Qe K G w0 post rm_C_readRule) 7 5 [(0, .ref (xa σ 12)), (1, .int x1), (2, .int x2), (3, .long x3), (5, .int x5)] [] (WC G σ) 0 0 := by
  refine b_iload X d_C_readRule_5 4 rfl ?_
  refine b_aload_n X d_C_readRule_7 0 rfl rfl ?_
  refine b_get X fl_C_43 12 rfl (v := .int (xi σ 12 0)) rfl d_C_readRule_8 ?_
  refine b_icmp_gt X (tgt := 96) d_C_readRule_11 (by decide) (fun h => absurd h c11) (fun _ => ?_)
  refine b_aload_n X d_C_readRule_14 0 rfl rfl ?_
  refine b_get X fl_C_88 12 rfl (v := .long (xl σ 12 0)) rfl d_C_readRule_15 ?_
  refine b_iload X d_C_readRule_18 4 rfl ?_
  refine b_lushr X (v := (ushrL (xl σ 12 0) x5)) d_C_readRule_20 rfl ?_
  refine b_lconst X (v := 0) d_C_readRule_21 rfl ?_
  refine b_l_eq X (tgt := 96) d_C_readRule_22 d_C_readRule_23 (by decide) (fun _ => ?_) (fun h => absurd c22 h)
  refine b_aload_n X d_C_readRule_96 0 rfl rfl ?_
  refine b_lload_n X d_C_readRule_97 3 rfl rfl ?_
  refine b_put X fl_C_88 pl_C_here 12 rfl rfl rfl (Nat.le_of_ble_eq_true rfl) (uWC_12_here G σ x3) d_C_readRule_98 ?_
  exact b_vret X d_C_readRule_101 hp
theorem sg_C_readRule_5_fft5 {K : KX} {G : GG} {w0 : va_W} {Q : State → Prop} (X : Bd K G w0 "FirstTrees$Chart" c_C_readRule 7 none rm_C_readRule) (σ : St) (x1 : Int32) (x2 : Int32) (x3 : Int64) (x5 : Int32)  (c11 : ¬ (xi σ 12 0) < x5) (c22 : ¬ (ushrL (xl σ 12 0) x5) = 0) (c35 : (hasB (xl σ 12 0) x5) = 0) (k : Lb K G w0 Q 7 5 [(0, .ref (xa σ 12)), (1, .int x1), (2, .int x2), (3, .long x3), (5, .int (x5 + 1))] [] (WC G σ) 0 0) : Lb K G w0 Q 7 5 [(0, .ref (xa σ 12)), (1, .int x1), (2, .int x2), (3, .long x3), (5, .int x5)] [] (WC G σ) 0 0 := by
  refine b_iload X d_C_readRule_5 4 rfl ?_
  refine b_aload_n X d_C_readRule_7 0 rfl rfl ?_
  refine b_get X fl_C_43 12 rfl (v := .int (xi σ 12 0)) rfl d_C_readRule_8 ?_
  refine b_icmp_gt X (tgt := 96) d_C_readRule_11 (by decide) (fun h => absurd h c11) (fun _ => ?_)
  refine b_aload_n X d_C_readRule_14 0 rfl rfl ?_
  refine b_get X fl_C_88 12 rfl (v := .long (xl σ 12 0)) rfl d_C_readRule_15 ?_
  refine b_iload X d_C_readRule_18 4 rfl ?_
  refine b_lushr X (v := (ushrL (xl σ 12 0) x5)) d_C_readRule_20 rfl ?_
  refine b_lconst X (v := 0) d_C_readRule_21 rfl ?_
  refine b_l_eq X (tgt := 96) d_C_readRule_22 d_C_readRule_23 (by decide) (fun h => absurd h c22) (fun _ => ?_)
  refine b_aload_n X d_C_readRule_26 0 rfl rfl ?_
  refine b_get X fl_C_88 12 rfl (v := .long (xl σ 12 0)) rfl d_C_readRule_27 ?_
  refine b_iload X d_C_readRule_30 4 rfl ?_
  refine b_dSN X cf_F_has ci_F_has mn_C_70 (ct_F_has G σ (xl σ 12 0) x5) (As := [.long (xl σ 12 0), .int x5]) (rest := []) rfl (Nat.le_of_ble_eq_true rfl) ⟨Nat.le_of_ble_eq_true rfl, Nat.le_of_ble_eq_true rfl⟩ ⟨Nat.le_of_ble_eq_true rfl, Nat.le_of_ble_eq_true rfl⟩ rfl rfl d_C_readRule_32 ?_
  refine b_if_eq X (tgt := 90) d_C_readRule_35 (by decide) (fun _ => ?_) (fun h => absurd c35 h)
  refine b_iinc X (lv' := [(0, .ref (xa σ 12)), (1, .int x1), (2, .int x2), (3, .long x3), (5, .int (x5 + 1))]) d_C_readRule_90 4 rfl (v := (x5 + 1)) rfl (by decide) [1, 2, 3, 4, 0] rfl ?_
  refine b_goto X (tgt := 5) d_C_readRule_93 (by decide) ?_
  exact k
theorem sg_C_readRule_5_fff5 {K : KX} {G : GG} {w0 : va_W} {Q : State → Prop} (X : Bd K G w0 "FirstTrees$Chart" c_C_readRule 7 none rm_C_readRule) (σ : St) (x1 : Int32) (x2 : Int32) (x3 : Int64) (x5 : Int32) (n53 : Nat) (c11 : ¬ (xi σ 12 0) < x5) (c22 : ¬ (ushrL (xl σ 12 0) x5) = 0) (c35 : ¬ (hasB (xl σ 12 0) x5) = 0) (e53 : ((x1 * 61) + x5) = nI n53) (h53 : n53 < 976) (k : Lb K G w0 Q 7 5 [(0, .ref (xa σ 12)), (1, .int x1), (2, .int x2), (3, .long (x3 ||| (xl σ 16 n53))), (5, .int (x5 + 1))] [] (WC G (wl (wi σ 12 1 (imax (xi σ 12 1) (xi σ 17 n53))) 12 1 ((xl σ 12 1) ||| (xl σ 18 n53)))) 0 0) : Lb K G w0 Q 7 5 [(0, .ref (xa σ 12)), (1, .int x1), (2, .int x2), (3, .long x3), (5, .int x5)] [] (WC G σ) 0 0 := by
  refine b_iload X d_C_readRule_5 4 rfl ?_
  refine b_aload_n X d_C_readRule_7 0 rfl rfl ?_
  refine b_get X fl_C_43 12 rfl (v := .int (xi σ 12 0)) rfl d_C_readRule_8 ?_
  refine b_icmp_gt X (tgt := 96) d_C_readRule_11 (by decide) (fun h => absurd h c11) (fun _ => ?_)
  refine b_aload_n X d_C_readRule_14 0 rfl rfl ?_
  refine b_get X fl_C_88 12 rfl (v := .long (xl σ 12 0)) rfl d_C_readRule_15 ?_
  refine b_iload X d_C_readRule_18 4 rfl ?_
  refine b_lushr X (v := (ushrL (xl σ 12 0) x5)) d_C_readRule_20 rfl ?_
  refine b_lconst X (v := 0) d_C_readRule_21 rfl ?_
  refine b_l_eq X (tgt := 96) d_C_readRule_22 d_C_readRule_23 (by decide) (fun h => absurd h c22) (fun _ => ?_)
  refine b_aload_n X d_C_readRule_26 0 rfl rfl ?_
  refine b_get X fl_C_88 12 rfl (v := .long (xl σ 12 0)) rfl d_C_readRule_27 ?_
  refine b_iload X d_C_readRule_30 4 rfl ?_
  refine b_dSN X cf_F_has ci_F_has mn_C_70 (ct_F_has G σ (xl σ 12 0) x5) (As := [.long (xl σ 12 0), .int x5]) (rest := []) rfl (Nat.le_of_ble_eq_true rfl) ⟨Nat.le_of_ble_eq_true rfl, Nat.le_of_ble_eq_true rfl⟩ ⟨Nat.le_of_ble_eq_true rfl, Nat.le_of_ble_eq_true rfl⟩ rfl rfl d_C_readRule_32 ?_
  refine b_if_eq X (tgt := 90) d_C_readRule_35 (by decide) (fun h => absurd h c35) (fun _ => ?_)
  refine b_iload_n X d_C_readRule_38 1 rfl rfl ?_
  refine b_iload X d_C_readRule_39 4 rfl ?_
  refine b_dS X cf_C_at ci_C_at ml_C_66 (ct_C_at_ G σ x1 x5) (As := [.int x1, .int x5]) (rest := []) rfl (Nat.le_of_ble_eq_true rfl) ⟨Nat.le_of_ble_eq_true rfl, Nat.le_of_ble_eq_true rfl⟩ ⟨Nat.le_of_ble_eq_true rfl, Nat.le_of_ble_eq_true rfl⟩ rfl rfl d_C_readRule_41 ?_
  refine b_istore X (lv' := [(0, .ref (xa σ 12)), (1, .int x1), (2, .int x2), (3, .long x3), (5, .int x5), (6, .int ((x1 * 61) + x5))]) d_C_readRule_44 (by decide) [1, 2, 3, 4, 5, 0] rfl ?_
  refine b_lload_n X d_C_readRule_46 3 rfl rfl ?_
  refine b_aload_n X d_C_readRule_47 0 rfl rfl ?_
  refine b_get X fl_C_22 12 rfl (v := .ref (xa σ 16)) rfl d_C_readRule_48 ?_
  refine b_iload X d_C_readRule_51 5 rfl ?_
  refine b_lald X 16 rfl (by decide) n53 e53 h53 d_C_readRule_53 ?_
  refine b_lor X d_C_readRule_54 ?_
  refine b_lstore_n X (lv' := [(0, .ref (xa σ 12)), (1, .int x1), (2, .int x2), (3, .long (x3 ||| (xl σ 16 n53))), (5, .int x5), (6, .int ((x1 * 61) + x5))]) d_C_readRule_55 rfl (by decide) [1, 2, 3, 0, 4, 5] rfl ?_
  refine b_aload_n X d_C_readRule_56 0 rfl rfl ?_
  refine b_aload_n X d_C_readRule_57 0 rfl rfl ?_
  refine b_get X fl_C_92 12 rfl (v := .int (xi σ 12 1)) rfl d_C_readRule_58 ?_
  refine b_aload_n X d_C_readRule_61 0 rfl rfl ?_
  refine b_get X fl_C_25 12 rfl (v := .ref (xa σ 17)) rfl d_C_readRule_62 ?_
  refine b_iload X d_C_readRule_65 5 rfl ?_
  refine b_iald X 17 rfl (by decide) n53 e53 h53 d_C_readRule_67 ?_
  refine b_mmax X ml_C_95 ⟨Nat.le_of_ble_eq_true rfl, Nat.le_of_ble_eq_true rfl, Nat.le_of_ble_eq_true rfl, Nat.le_of_ble_eq_true rfl⟩ d_C_readRule_68 ?_
  refine b_put X fl_C_92 pl_C_far 12 rfl rfl rfl (Nat.le_of_ble_eq_true rfl) (uWC_12_far G σ (imax (xi σ 12 1) (xi σ 17 n53))) d_C_readRule_71 ?_
  refine b_aload_n X d_C_readRule_74 0 rfl rfl ?_
  refine b_dup X d_C_readRule_75 rfl ?_
  refine b_get X fl_C_100 12 rfl (v := .long (xl σ 12 1)) rfl d_C_readRule_76 ?_
  refine b_aload_n X d_C_readRule_79 0 rfl rfl ?_
  refine b_get X fl_C_28 12 rfl (v := .ref (xa σ 18)) rfl d_C_readRule_80 ?_
  refine b_iload X d_C_readRule_83 5 rfl ?_
  refine b_lald X 18 rfl (by decide) n53 e53 h53 d_C_readRule_85 ?_
  refine b_lor X d_C_readRule_86 ?_
  refine b_put X fl_C_100 pl_C_soon 12 rfl rfl rfl (Nat.le_of_ble_eq_true rfl) (uWC_12_soon G (wi σ 12 1 (imax (xi σ 12 1) (xi σ 17 n53))) ((xl σ 12 1) ||| (xl σ 18 n53))) d_C_readRule_87 ?_
  refine b_iinc X (lv' := [(0, .ref (xa σ 12)), (1, .int x1), (2, .int x2), (3, .long (x3 ||| (xl σ 16 n53))), (5, .int (x5 + 1)), (6, .int ((x1 * 61) + x5))]) d_C_readRule_90 4 rfl (v := (x5 + 1)) rfl (by decide) [1, 2, 3, 4, 0, 5] rfl ?_
  refine b_goto X (tgt := 5) d_C_readRule_93 (by decide) ?_
  refine Lb.pick (lv' := [(0, .ref (xa σ 12)), (1, .int x1), (2, .int x2), (3, .long (x3 ||| (xl σ 16 n53))), (5, .int (x5 + 1))]) [0, 1, 2, 3, 4] rfl ?_
  exact k
theorem sg_Y_ofWholeInput_0_8 {K : KX} {G : GG} {w0 : va_W} {Q : State → Prop} (X : Bd K G w0 "FirstTrees$Ways" c_Y_ofWholeInput 3 (some .int) rm_Y_ofWholeInput) (σ : St)    (k : Lb K G w0 Q 3 8 [(0, .ref (xa σ 19)), (1, .int (xi σ 12 0))] [] (WC G σ) 0 0) : Lb K G w0 Q 3 0 [(0, .ref (xa σ 19))] [] (WC G σ) 0 0 := by
  refine b_aload_n X d_Y_ofWholeInput_0 0 rfl rfl ?_
  refine b_get X fl_Y_32 19 rfl (v := .ref (xa σ 12)) rfl d_Y_ofWholeInput_1 ?_
  refine b_dV X cf_C_end ci_C_end ml_Y_36 (ct_C_end_ G σ ) 12 rfl rfl (As := []) (rest := []) rfl (Nat.le_of_ble_eq_true rfl) ⟨Nat.le_of_ble_eq_true rfl, Nat.le_of_ble_eq_true rfl⟩ ⟨Nat.le_of_ble_eq_true rfl, Nat.le_of_ble_eq_true rfl⟩ rfl rfl d_Y_ofWholeInput_4 ?_
  refine b_istore_n X (lv' := [(0, .ref (xa σ 19)), (1, .int (xi σ 12 0))]) d_Y_ofWholeInput_7 rfl (by decide) [1, 0] rfl ?_
  exact k
theorem sg_Y_ofWholeInput_8_tr {K : KX} {G : GG} {w0 : va_W} {post : PostT} (X : Bd K G w0 "FirstTrees$Ways" c_Y_ofWholeInput 3 (some .int) rm_Y_ofWholeInput) (σ : St) (x1 : Int32) (n66 : Nat) (c9 : x1 < 0) (e66 : ((((0 * 61) + 0) * 61) + (xi σ 12 0)) = nI n66) (h66 : n66 < 59536) (hp : post (some (.int (xi σ 20 n66))) (WC G σ)) : Lb K G w0 (Qe K G w0 post rm_Y_ofWholeInput) 3 8 [(0, .ref (xa σ 19)), (1, .int x1)] [] (WC G σ) 0 0 := by
  refine b_iload_n X d_Y_ofWholeInput_8 1 rfl rfl ?_
  refine b_if_lt X (tgt := 50) d_Y_ofWholeInput_9 (by decide) (fun _ => ?_) (fun h => absurd c9 h)
  refine b_aload_n X d_Y_ofWholeInput_50 0 rfl rfl ?_
  refine b_get X fl_Y_10 19 rfl (v := .ref (xa σ 20)) rfl d_Y_ofWholeInput_51 ?_
  refine b_iconst X (v := 0) d_Y_ofWholeInput_54 (by decide) ?_
  refine b_iconst X (v := 0) d_Y_ofWholeInput_55 (by decide) ?_
  refine b_aload_n X d_Y_ofWholeInput_56 0 rfl rfl ?_
  refine b_get X fl_Y_32 19 rfl (v := .ref (xa σ 12)) rfl d_Y_ofWholeInput_57 ?_
  refine b_dV X cf_C_end ci_C_end ml_Y_36 (ct_C_end_ G σ ) 12 rfl rfl (As := []) (rest := [.int 0, .int 0, .ref (xa σ 20)]) rfl (Nat.le_of_ble_eq_true rfl) ⟨Nat.le_of_ble_eq_true rfl, Nat.le_of_ble_eq_true rfl⟩ ⟨Nat.le_of_ble_eq_true rfl, Nat.le_of_ble_eq_true rfl⟩ rfl rfl d_Y_ofWholeInput_60 ?_
  refine b_dS X cf_Y_at ci_Y_at ml_Y_57 (ct_Y_at_ G σ 0 0 (xi σ 12 0)) (As := [.int 0, .int 0, .int (xi σ 12 0)]) (rest := [.ref (xa σ 20)]) rfl (Nat.le_of_ble_eq_true rfl) ⟨Nat.le_of_ble_eq_true rfl, Nat.le_of_ble_eq_true rfl⟩ ⟨Nat.le_of_ble_eq_true rfl, Nat.le_of_ble_eq_true rfl⟩ rfl rfl d_Y_ofWholeInput_63 ?_
  refine b_iald X 20 rfl (by decide) n66 e66 h66 d_Y_ofWholeInput_66 ?_
  exact b_iret X d_Y_ofWholeInput_67 hp
theorem sg_Y_ofWholeInput_8_f14 {K : KX} {G : GG} {w0 : va_W} {Q : State → Prop} (X : Bd K G w0 "FirstTrees$Ways" c_Y_ofWholeInput 3 (some .int) rm_Y_ofWholeInput) (σ : St) (x1 : Int32)  (c9 : ¬ x1 < 0) (k : Lb K G w0 Q 3 14 [(0, .ref (xa σ 19)), (1, .int x1), (2, .int 0)] [] (WC G σ) 0 0) : Lb K G w0 Q 3 8 [(0, .ref (xa σ 19)), (1, .int x1)] [] (WC G σ) 0 0 := by
  refine b_iload_n X d_Y_ofWholeInput_8 1 rfl rfl ?_
  refine b_if_lt X (tgt := 50) d_Y_ofWholeInput_9 (by decide) (fun h => absurd h c9) (fun _ => ?_)
  refine b_iconst X (v := 0) d_Y_ofWholeInput_12 (by decide) ?_
  refine b_istore_n X (lv' := [(0, .ref (xa σ 19)), (1, .int x1), (2, .int 0)]) d_Y_ofWholeInput_13 rfl (by decide) [1, 2, 0] rfl ?_
  exact k
theorem sg_Y_ofWholeInput_14_t8 {K : KX} {G : GG} {w0 : va_W} {Q : State → Prop} (X : Bd K G w0 "FirstTrees$Ways" c_Y_ofWholeInput 3 (some .int) rm_Y_ofWholeInput) (σ : St) (x1 : Int32) (x2 : Int32)  (c22 : (xi σ 1 0) ≤ x2) (k : Lb K G w0 Q 3 8 [(0, .ref (xa σ 19)), (1, .int (x1 + (-1)))] [] (WC G σ) 0 0) : Lb K G w0 Q 3 14 [(0, .ref (xa σ 19)), (1, .int x1), (2, .int x2)] [] (WC G σ) 0 0 := by
  refine b_iload_n X d_Y_ofWholeInput_14 2 rfl rfl ?_
  refine b_aload_n X d_Y_ofWholeInput_15 0 rfl rfl ?_
  refine b_get X fl_Y_20 19 rfl (v := .ref (xa σ 1)) rfl d_Y_ofWholeInput_16 ?_
  refine b_dV X cf_G_rules ci_G_rules ml_Y_42 (ct_G_rules_ G σ ) 1 rfl rfl (As := []) (rest := [.int x2]) rfl (Nat.le_of_ble_eq_true rfl) ⟨Nat.le_of_ble_eq_true rfl, Nat.le_of_ble_eq_true rfl⟩ ⟨Nat.le_of_ble_eq_true rfl, Nat.le_of_ble_eq_true rfl⟩ rfl rfl d_Y_ofWholeInput_19 ?_
  refine b_icmp_ge X (tgt := 44) d_Y_ofWholeInput_22 (by decide) (fun _ => ?_) (fun h => absurd c22 h)
  refine b_iinc X (lv' := [(0, .ref (xa σ 19)), (1, .int (x1 + (-1))), (2, .int x2)]) d_Y_ofWholeInput_44 1 rfl (v := (x1 + (-1))) rfl (by decide) [1, 0, 2] rfl ?_
  refine b_goto X (tgt := 8) d_Y_ofWholeInput_47 (by decide) ?_
  refine Lb.pick (lv' := [(0, .ref (xa σ 19)), (1, .int (x1 + (-1)))]) [0, 1] rfl ?_
  exact k
theorem sg_Y_ofWholeInput_14_f14 {K : KX} {G : GG} {w0 : va_W} {Q : State → Prop} (X : Bd K G w0 "FirstTrees$Ways" c_Y_ofWholeInput 3 (some .int) rm_Y_ofWholeInput) (σ : St) (x1 : Int32) (x2 : Int32) (n31 : Nat) (q35 : Sq) (c22 : ¬ (xi σ 1 0) ≤ x2) (e31 : x2 = nI n31) (h31 : n31 < 16) (t35 : Ct y_Y_fillRule c_Y_fillRule 5 none rm_Y_fillRule G [.ref (xa σ 19), .int (xi σ 7 n31), .int x1] (WC G σ) (eqp (none) (WC G (xa σ, q35)))) (k : Lb K G w0 Q 3 14 [(0, .ref (xa σ 19)), (1, .int x1), (2, .int (x2 + 1))] [] (WC G (xa σ, q35)) 0 0) : Lb K G w0 Q 3 14 [(0, .ref (xa σ 19)), (1, .int x1), (2, .int x2)] [] (WC G σ) 0 0 := by
  refine b_iload_n X d_Y_ofWholeInput_14 2 rfl rfl ?_
  refine b_aload_n X d_Y_ofWholeInput_15 0 rfl rfl ?_
  refine b_get X fl_Y_20 19 rfl (v := .ref (xa σ 1)) rfl d_Y_ofWholeInput_16 ?_
  refine b_dV X cf_G_rules ci_G_rules ml_Y_42 (ct_G_rules_ G σ ) 1 rfl rfl (As := []) (rest := [.int x2]) rfl (Nat.le_of_ble_eq_true rfl) ⟨Nat.le_of_ble_eq_true rfl, Nat.le_of_ble_eq_true rfl⟩ ⟨Nat.le_of_ble_eq_true rfl, Nat.le_of_ble_eq_true rfl⟩ rfl rfl d_Y_ofWholeInput_19 ?_
  refine b_icmp_ge X (tgt := 44) d_Y_ofWholeInput_22 (by decide) (fun h => absurd h c22) (fun _ => ?_)
  refine b_aload_n X d_Y_ofWholeInput_25 0 rfl rfl ?_
  refine b_aload_n X d_Y_ofWholeInput_26 0 rfl rfl ?_
  refine b_get X fl_Y_24 19 rfl (v := .ref (xa σ 5)) rfl d_Y_ofWholeInput_27 ?_
  refine b_iload_n X d_Y_ofWholeInput_30 2 rfl rfl ?_
  refine b_dV X cf_S_inOrder ci_S_inOrder ml_Y_47 (ct_S_inOrder_ G σ x2 n31 e31 h31) 5 rfl rfl (As := [.int x2]) (rest := [.ref (xa σ 19)]) rfl (Nat.le_of_ble_eq_true rfl) ⟨Nat.le_of_ble_eq_true rfl, Nat.le_of_ble_eq_true rfl⟩ ⟨Nat.le_of_ble_eq_true rfl, Nat.le_of_ble_eq_true rfl⟩ rfl rfl d_Y_ofWholeInput_31 ?_
  refine b_iload_n X d_Y_ofWholeInput_34 1 rfl rfl ?_
  refine b_dV X cf_Y_fillRule ci_Y_fillRule ml_Y_53 t35 19 rfl rfl (As := [.int (xi σ 7 n31), .int x1]) (rest := []) rfl (Nat.le_of_ble_eq_true rfl) ⟨Nat.le_of_ble_eq_true rfl, Nat.le_of_ble_eq_true rfl⟩ ⟨Nat.le_of_ble_eq_true rfl, Nat.le_of_ble_eq_true rfl⟩ rfl rfl d_Y_ofWholeInput_35 ?_
  refine b_iinc X (lv' := [(0, .ref (xa σ 19)), (1, .int x1), (2, .int (x2 + 1))]) d_Y_ofWholeInput_38 2 rfl (v := (x2 + 1)) rfl (by decide) [1, 2, 0] rfl ?_
  refine b_goto X (tgt := 14) d_Y_ofWholeInput_41 (by decide) ?_
  exact k
theorem sg_Y_fillRule_0_2 {K : KX} {G : GG} {w0 : va_W} {Q : State → Prop} (X : Bd K G w0 "FirstTrees$Ways" c_Y_fillRule 5 none rm_Y_fillRule) (σ : St) (x1 : Int32) (x2 : Int32)   (k : Lb K G w0 Q 5 2 [(0, .ref (xa σ 19)), (1, .int x1), (2, .int x2), (3, .int x2)] [] (WC G σ) 0 0) : Lb K G w0 Q 5 0 [(0, .ref (xa σ 19)), (1, .int x1), (2, .int x2)] [] (WC G σ) 0 0 := by
  refine b_iload_n X d_Y_fillRule_0 2 rfl rfl ?_
  refine b_istore_n X (lv' := [(0, .ref (xa σ 19)), (1, .int x1), (2, .int x2), (3, .int x2)]) d_Y_fillRule_1 rfl (by decide) [1, 2, 3, 0] rfl ?_
  exact k
theorem sg_Y_fillRule_2_t33 {K : KX} {G : GG} {w0 : va_W} {Q : State → Prop} (X : Bd K G w0 "FirstTrees$Ways" c_Y_fillRule 5 none rm_Y_fillRule) (σ : St) (x1 : Int32) (x2 : Int32) (x3 : Int32)  (c10 : (xi σ 12 0) < x3) (k : Lb K G w0 Q 5 33 [(0, .ref (xa σ 19)), (1, .int x1), (2, .int x2), (3, .int 0)] [] (WC G σ) 0 0) : Lb K G w0 Q 5 2 [(0, .ref (xa σ 19)), (1, .int x1), (2, .int x2), (3, .int x3)] [] (WC G σ) 0 0 := by
  refine b_iload_n X d_Y_fillRule_2 3 rfl rfl ?_
  refine b_aload_n X d_Y_fillRule_3 0 rfl rfl ?_
  refine b_get X fl_Y_32 19 rfl (v := .ref (xa σ 12)) rfl d_Y_fillRule_4 ?_
  refine b_dV X cf_C_end ci_C_end ml_Y_36 (ct_C_end_ G σ ) 12 rfl rfl (As := []) (rest := [.int x3]) rfl (Nat.le_of_ble_eq_true rfl) ⟨Nat.le_of_ble_eq_true rfl, Nat.le_of_ble_eq_true rfl⟩ ⟨Nat.le_of_ble_eq_true rfl, Nat.le_of_ble_eq_true rfl⟩ rfl rfl d_Y_fillRule_7 ?_
  refine b_icmp_gt X (tgt := 31) d_Y_fillRule_10 (by decide) (fun _ => ?_) (fun h => absurd c10 h)
  refine b_iconst X (v := 0) d_Y_fillRule_31 (by decide) ?_
  refine b_istore_n X (lv' := [(0, .ref (xa σ 19)), (1, .int x1), (2, .int x2), (3, .int 0)]) d_Y_fillRule_32 rfl (by decide) [1, 2, 3, 0] rfl ?_
  exact k
theorem sg_Y_fillRule_2_f2 {K : KX} {G : GG} {w0 : va_W} {Q : State → Prop} (X : Bd K G w0 "FirstTrees$Ways" c_Y_fillRule 5 none rm_Y_fillRule) (σ : St) (x1 : Int32) (x2 : Int32) (x3 : Int32) (n24 : Nat) (c10 : ¬ (xi σ 12 0) < x3) (e24 : ((((x1 * 61) + x2) * 61) + x3) = nI n24) (h24 : n24 < 59536) (k : Lb K G w0 Q 5 2 [(0, .ref (xa σ 19)), (1, .int x1), (2, .int x2), (3, .int (x3 + 1))] [] (WC G (wi σ 20 n24 0)) 0 0) : Lb K G w0 Q 5 2 [(0, .ref (xa σ 19)), (1, .int x1), (2, .int x2), (3, .int x3)] [] (WC G σ) 0 0 := by
  refine b_iload_n X d_Y_fillRule_2 3 rfl rfl ?_
  refine b_aload_n X d_Y_fillRule_3 0 rfl rfl ?_
  refine b_get X fl_Y_32 19 rfl (v := .ref (xa σ 12)) rfl d_Y_fillRule_4 ?_
  refine b_dV X cf_C_end ci_C_end ml_Y_36 (ct_C_end_ G σ ) 12 rfl rfl (As := []) (rest := [.int x3]) rfl (Nat.le_of_ble_eq_true rfl) ⟨Nat.le_of_ble_eq_true rfl, Nat.le_of_ble_eq_true rfl⟩ ⟨Nat.le_of_ble_eq_true rfl, Nat.le_of_ble_eq_true rfl⟩ rfl rfl d_Y_fillRule_7 ?_
  refine b_icmp_gt X (tgt := 31) d_Y_fillRule_10 (by decide) (fun h => absurd h c10) (fun _ => ?_)
  refine b_aload_n X d_Y_fillRule_13 0 rfl rfl ?_
  refine b_get X fl_Y_10 19 rfl (v := .ref (xa σ 20)) rfl d_Y_fillRule_14 ?_
  refine b_iload_n X d_Y_fillRule_17 1 rfl rfl ?_
  refine b_iload_n X d_Y_fillRule_18 2 rfl rfl ?_
  refine b_iload_n X d_Y_fillRule_19 3 rfl rfl ?_
  refine b_dS X cf_Y_at ci_Y_at ml_Y_57 (ct_Y_at_ G σ x1 x2 x3) (As := [.int x1, .int x2, .int x3]) (rest := [.ref (xa σ 20)]) rfl (Nat.le_of_ble_eq_true rfl) ⟨Nat.le_of_ble_eq_true rfl, Nat.le_of_ble_eq_true rfl⟩ ⟨Nat.le_of_ble_eq_true rfl, Nat.le_of_ble_eq_true rfl⟩ rfl rfl d_Y_fillRule_20 ?_
  refine b_iconst X (v := 0) d_Y_fillRule_23 (by decide) ?_
  refine b_iast X 20 rfl (by decide) n24 e24 h24 (uWC_20 G σ n24 0) d_Y_fillRule_24 ?_
  refine b_iinc X (lv' := [(0, .ref (xa σ 19)), (1, .int x1), (2, .int x2), (3, .int (x3 + 1))]) d_Y_fillRule_25 3 rfl (v := (x3 + 1)) rfl (by decide) [1, 2, 3, 0] rfl ?_
  refine b_goto X (tgt := 2) d_Y_fillRule_28 (by decide) ?_
  exact k
theorem sg_Y_fillRule_33_tr {K : KX} {G : GG} {w0 : va_W} {post : PostT} (X : Bd K G w0 "FirstTrees$Ways" c_Y_fillRule 5 none rm_Y_fillRule) (σ : St) (x1 : Int32) (x2 : Int32) (x3 : Int32) (n39 : Nat) (e39 : x1 = nI n39) (h39 : n39 < 16) (c42 : (altC σ n39) ≤ x3) (hp : post none (WC G σ)) : Lb K G w0 (Qe K G w0 post rm_Y_fillRule) 5 33 [(0, .ref (xa σ 19)), (1, .int x1), (2, .int x2), (3, .int x3)] [] (WC G σ) 0 0 := by
  refine b_iload_n X d_Y_fillRule_33 3 rfl rfl ?_
  refine b_aload_n X d_Y_fillRule_34 0 rfl rfl ?_
  refine b_get X fl_Y_20 19 rfl (v := .ref (xa σ 1)) rfl d_Y_fillRule_35 ?_
  refine b_iload_n X d_Y_fillRule_38 1 rfl rfl ?_
  refine b_dV X cf_G_alternatives ci_G_alternatives ml_Y_61 (ct_G_alternatives G σ x1 n39 e39 h39) 1 rfl rfl (As := [.int x1]) (rest := [.int x3]) rfl (Nat.le_of_ble_eq_true rfl) ⟨Nat.le_of_ble_eq_true rfl, Nat.le_of_ble_eq_true rfl⟩ ⟨Nat.le_of_ble_eq_true rfl, Nat.le_of_ble_eq_true rfl⟩ rfl rfl d_Y_fillRule_39 ?_
  refine b_icmp_ge X (tgt := 89) d_Y_fillRule_42 (by decide) (fun _ => ?_) (fun h => absurd c42 h)
  exact b_vret X d_Y_fillRule_89 hp
theorem sg_Y_fillRule_33_ft33 {K : KX} {G : GG} {w0 : va_W} {Q : State → Prop} (X : Bd K G w0 "FirstTrees$Ways" c_Y_fillRule 5 none rm_Y_fillRule) (σ : St) (x1 : Int32) (x2 : Int32) (x3 : Int32) (n39 : Nat) (n62 : Nat) (e39 : x1 = nI n39) (h39 : n39 < 16) (c42 : ¬ (altC σ n39) ≤ x3) (e62 : ((((x1 * 8) + x3) * 61) + x2) = nI n62) (h62 : n62 < 7808) (c66 : (xl σ 14 n62) = 0) (k : Lb K G w0 Q 5 33 [(0, .ref (xa σ 19)), (1, .int x1), (2, .int x2), (3, .int (x3 + 1))] [] (WC G σ) 0 0) : Lb K G w0 Q 5 33 [(0, .ref (xa σ 19)), (1, .int x1), (2, .int x2), (3, .int x3)] [] (WC G σ) 0 0 := by
  refine b_iload_n X d_Y_fillRule_33 3 rfl rfl ?_
  refine b_aload_n X d_Y_fillRule_34 0 rfl rfl ?_
  refine b_get X fl_Y_20 19 rfl (v := .ref (xa σ 1)) rfl d_Y_fillRule_35 ?_
  refine b_iload_n X d_Y_fillRule_38 1 rfl rfl ?_
  refine b_dV X cf_G_alternatives ci_G_alternatives ml_Y_61 (ct_G_alternatives G σ x1 n39 e39 h39) 1 rfl rfl (As := [.int x1]) (rest := [.int x3]) rfl (Nat.le_of_ble_eq_true rfl) ⟨Nat.le_of_ble_eq_true rfl, Nat.le_of_ble_eq_true rfl⟩ ⟨Nat.le_of_ble_eq_true rfl, Nat.le_of_ble_eq_true rfl⟩ rfl rfl d_Y_fillRule_39 ?_
  refine b_icmp_ge X (tgt := 89) d_Y_fillRule_42 (by decide) (fun h => absurd h c42) (fun _ => ?_)
  refine b_iload_n X d_Y_fillRule_45 1 rfl rfl ?_
  refine b_iload_n X d_Y_fillRule_46 3 rfl rfl ?_
  refine b_dS X cf_G_row ci_G_row ml_Y_64 (ct_G_row_ G σ x1 x3) (As := [.int x1, .int x3]) (rest := []) rfl (Nat.le_of_ble_eq_true rfl) ⟨Nat.le_of_ble_eq_true rfl, Nat.le_of_ble_eq_true rfl⟩ ⟨Nat.le_of_ble_eq_true rfl, Nat.le_of_ble_eq_true rfl⟩ rfl rfl d_Y_fillRule_47 ?_
  refine b_istore X (lv' := [(0, .ref (xa σ 19)), (1, .int x1), (2, .int x2), (3, .int x3), (4, .int ((x1 * 8) + x3))]) d_Y_fillRule_50 (by decide) [1, 2, 3, 4, 0] rfl ?_
  refine b_aload_n X d_Y_fillRule_52 0 rfl rfl ?_
  refine b_get X fl_Y_32 19 rfl (v := .ref (xa σ 12)) rfl d_Y_fillRule_53 ?_
  refine b_iload X d_Y_fillRule_56 4 rfl ?_
  refine b_iload_n X d_Y_fillRule_58 2 rfl rfl ?_
  refine b_dS X cf_C_at ci_C_at ml_Y_68 (ct_C_at_ G σ ((x1 * 8) + x3) x2) (As := [.int ((x1 * 8) + x3), .int x2]) (rest := [.ref (xa σ 12)]) rfl (Nat.le_of_ble_eq_true rfl) ⟨Nat.le_of_ble_eq_true rfl, Nat.le_of_ble_eq_true rfl⟩ ⟨Nat.le_of_ble_eq_true rfl, Nat.le_of_ble_eq_true rfl⟩ rfl rfl d_Y_fillRule_59 ?_
  refine b_dV X cf_C_rowFits ci_C_rowFits ml_Y_70 (ct_C_rowFits_ G σ ((((x1 * 8) + x3) * 61) + x2) n62 e62 h62) 12 rfl rfl (As := [.int ((((x1 * 8) + x3) * 61) + x2)]) (rest := []) rfl (Nat.le_of_ble_eq_true rfl) ⟨Nat.le_of_ble_eq_true rfl, Nat.le_of_ble_eq_true rfl⟩ ⟨Nat.le_of_ble_eq_true rfl, Nat.le_of_ble_eq_true rfl⟩ rfl rfl d_Y_fillRule_62 ?_
  refine b_lconst X (v := 0) d_Y_fillRule_65 rfl ?_
  refine b_l_eq X (tgt := 83) d_Y_fillRule_66 d_Y_fillRule_67 (by decide) (fun _ => ?_) (fun h => absurd c66 h)
  refine b_iinc X (lv' := [(0, .ref (xa σ 19)), (1, .int x1), (2, .int x2), (3, .int (x3 + 1)), (4, .int ((x1 * 8) + x3))]) d_Y_fillRule_83 3 rfl (v := (x3 + 1)) rfl (by decide) [1, 2, 3, 0, 4] rfl ?_
  refine b_goto X (tgt := 33) d_Y_fillRule_86 (by decide) ?_
  refine Lb.pick (lv' := [(0, .ref (xa σ 19)), (1, .int x1), (2, .int x2), (3, .int (x3 + 1))]) [0, 1, 2, 3] rfl ?_
  exact k
theorem sg_Y_fillRule_33_ff33 {K : KX} {G : GG} {w0 : va_W} {Q : State → Prop} (X : Bd K G w0 "FirstTrees$Ways" c_Y_fillRule 5 none rm_Y_fillRule) (σ : St) (x1 : Int32) (x2 : Int32) (x3 : Int32) (n39 : Nat) (n62 : Nat) (q74 : Sq) (q80 : Sq) (e39 : x1 = nI n39) (h39 : n39 < 16) (c42 : ¬ (altC σ n39) ≤ x3) (e62 : ((((x1 * 8) + x3) * 61) + x2) = nI n62) (h62 : n62 < 7808) (c66 : ¬ (xl σ 14 n62) = 0) (t74 : Ct y_Y_readRow c_Y_readRow 5 none rm_Y_readRow G [.ref (xa σ 19), .int ((x1 * 8) + x3), .int x2] (WC G σ) (eqp (none) (WC G (xa σ, q74)))) (t80 : Ct y_Y_addRow c_Y_addRow 5 none rm_Y_addRow G [.ref (xa σ 19), .int x1, .int x2] (WC G (xa σ, q74)) (eqp (none) (WC G (xa σ, q80)))) (k : Lb K G w0 Q 5 33 [(0, .ref (xa σ 19)), (1, .int x1), (2, .int x2), (3, .int (x3 + 1))] [] (WC G (xa σ, q80)) 0 0) : Lb K G w0 Q 5 33 [(0, .ref (xa σ 19)), (1, .int x1), (2, .int x2), (3, .int x3)] [] (WC G σ) 0 0 := by
  refine b_iload_n X d_Y_fillRule_33 3 rfl rfl ?_
  refine b_aload_n X d_Y_fillRule_34 0 rfl rfl ?_
  refine b_get X fl_Y_20 19 rfl (v := .ref (xa σ 1)) rfl d_Y_fillRule_35 ?_
  refine b_iload_n X d_Y_fillRule_38 1 rfl rfl ?_
  refine b_dV X cf_G_alternatives ci_G_alternatives ml_Y_61 (ct_G_alternatives G σ x1 n39 e39 h39) 1 rfl rfl (As := [.int x1]) (rest := [.int x3]) rfl (Nat.le_of_ble_eq_true rfl) ⟨Nat.le_of_ble_eq_true rfl, Nat.le_of_ble_eq_true rfl⟩ ⟨Nat.le_of_ble_eq_true rfl, Nat.le_of_ble_eq_true rfl⟩ rfl rfl d_Y_fillRule_39 ?_
  refine b_icmp_ge X (tgt := 89) d_Y_fillRule_42 (by decide) (fun h => absurd h c42) (fun _ => ?_)
  refine b_iload_n X d_Y_fillRule_45 1 rfl rfl ?_
  refine b_iload_n X d_Y_fillRule_46 3 rfl rfl ?_
  refine b_dS X cf_G_row ci_G_row ml_Y_64 (ct_G_row_ G σ x1 x3) (As := [.int x1, .int x3]) (rest := []) rfl (Nat.le_of_ble_eq_true rfl) ⟨Nat.le_of_ble_eq_true rfl, Nat.le_of_ble_eq_true rfl⟩ ⟨Nat.le_of_ble_eq_true rfl, Nat.le_of_ble_eq_true rfl⟩ rfl rfl d_Y_fillRule_47 ?_
  refine b_istore X (lv' := [(0, .ref (xa σ 19)), (1, .int x1), (2, .int x2), (3, .int x3), (4, .int ((x1 * 8) + x3))]) d_Y_fillRule_50 (by decide) [1, 2, 3, 4, 0] rfl ?_
  refine b_aload_n X d_Y_fillRule_52 0 rfl rfl ?_
  refine b_get X fl_Y_32 19 rfl (v := .ref (xa σ 12)) rfl d_Y_fillRule_53 ?_
  refine b_iload X d_Y_fillRule_56 4 rfl ?_
  refine b_iload_n X d_Y_fillRule_58 2 rfl rfl ?_
  refine b_dS X cf_C_at ci_C_at ml_Y_68 (ct_C_at_ G σ ((x1 * 8) + x3) x2) (As := [.int ((x1 * 8) + x3), .int x2]) (rest := [.ref (xa σ 12)]) rfl (Nat.le_of_ble_eq_true rfl) ⟨Nat.le_of_ble_eq_true rfl, Nat.le_of_ble_eq_true rfl⟩ ⟨Nat.le_of_ble_eq_true rfl, Nat.le_of_ble_eq_true rfl⟩ rfl rfl d_Y_fillRule_59 ?_
  refine b_dV X cf_C_rowFits ci_C_rowFits ml_Y_70 (ct_C_rowFits_ G σ ((((x1 * 8) + x3) * 61) + x2) n62 e62 h62) 12 rfl rfl (As := [.int ((((x1 * 8) + x3) * 61) + x2)]) (rest := []) rfl (Nat.le_of_ble_eq_true rfl) ⟨Nat.le_of_ble_eq_true rfl, Nat.le_of_ble_eq_true rfl⟩ ⟨Nat.le_of_ble_eq_true rfl, Nat.le_of_ble_eq_true rfl⟩ rfl rfl d_Y_fillRule_62 ?_
  refine b_lconst X (v := 0) d_Y_fillRule_65 rfl ?_
  refine b_l_eq X (tgt := 83) d_Y_fillRule_66 d_Y_fillRule_67 (by decide) (fun h => absurd h c66) (fun _ => ?_)
  refine b_aload_n X d_Y_fillRule_70 0 rfl rfl ?_
  refine b_iload X d_Y_fillRule_71 4 rfl ?_
  refine b_iload_n X d_Y_fillRule_73 2 rfl rfl ?_
  refine b_dV X cf_Y_readRow ci_Y_readRow ml_Y_74 t74 19 rfl rfl (As := [.int ((x1 * 8) + x3), .int x2]) (rest := []) rfl (Nat.le_of_ble_eq_true rfl) ⟨Nat.le_of_ble_eq_true rfl, Nat.le_of_ble_eq_true rfl⟩ ⟨Nat.le_of_ble_eq_true rfl, Nat.le_of_ble_eq_true rfl⟩ rfl rfl d_Y_fillRule_74 ?_
  refine b_aload_n X d_Y_fillRule_77 0 rfl rfl ?_
  refine b_iload_n X d_Y_fillRule_78 1 rfl rfl ?_
  refine b_iload_n X d_Y_fillRule_79 2 rfl rfl ?_
  refine b_dV X cf_Y_addRow ci_Y_addRow ml_Y_77 t80 19 rfl rfl (As := [.int x1, .int x2]) (rest := []) rfl (Nat.le_of_ble_eq_true rfl) ⟨Nat.le_of_ble_eq_true rfl, Nat.le_of_ble_eq_true rfl⟩ ⟨Nat.le_of_ble_eq_true rfl, Nat.le_of_ble_eq_true rfl⟩ rfl rfl d_Y_fillRule_80 ?_
  refine b_iinc X (lv' := [(0, .ref (xa σ 19)), (1, .int x1), (2, .int x2), (3, .int (x3 + 1)), (4, .int ((x1 * 8) + x3))]) d_Y_fillRule_83 3 rfl (v := (x3 + 1)) rfl (by decide) [1, 2, 3, 0, 4] rfl ?_
  refine b_goto X (tgt := 33) d_Y_fillRule_86 (by decide) ?_
  refine Lb.pick (lv' := [(0, .ref (xa σ 19)), (1, .int x1), (2, .int x2), (3, .int (x3 + 1))]) [0, 1, 2, 3] rfl ?_
  exact k
theorem sg_Y_addRow_0_2 {K : KX} {G : GG} {w0 : va_W} {Q : State → Prop} (X : Bd K G w0 "FirstTrees$Ways" c_Y_addRow 5 none rm_Y_addRow) (σ : St) (x1 : Int32) (x2 : Int32)   (k : Lb K G w0 Q 5 2 [(0, .ref (xa σ 19)), (1, .int x1), (2, .int x2), (3, .int x2)] [] (WC G σ) 0 0) : Lb K G w0 Q 5 0 [(0, .ref (xa σ 19)), (1, .int x1), (2, .int x2)] [] (WC G σ) 0 0 := by
  refine b_iload_n X d_Y_addRow_0 2 rfl rfl ?_
  refine b_istore_n X (lv' := [(0, .ref (xa σ 19)), (1, .int x1), (2, .int x2), (3, .int x2)]) d_Y_addRow_1 rfl (by decide) [1, 2, 3, 0] rfl ?_
  exact k
theorem sg_Y_addRow_2_tr {K : KX} {G : GG} {w0 : va_W} {post : PostT} (X : Bd K G w0 "FirstTrees$Ways" c_Y_addRow 5 none rm_Y_addRow) (σ : St) (x1 : Int32) (x2 : Int32) (x3 : Int32)  (c10 : (xi σ 12 0) < x3) (hp : post none (WC G σ)) : Lb K G w0 (Qe K G w0 post rm_Y_addRow) 5 2 [(0, .ref (xa σ 19)), (1, .int x1), (2, .int x2), (3, .int x3)] [] (WC G σ) 0 0 := by
  refine b_iload_n X d_Y_addRow_2 3 rfl rfl ?_
  refine b_aload_n X d_Y_addRow_3 0 rfl rfl ?_
  refine b_get X fl_Y_32 19 rfl (v := .ref (xa σ 12)) rfl d_Y_addRow_4 ?_
  refine b_dV X cf_C_end ci_C_end ml_Y_36 (ct_C_end_ G σ ) 12 rfl rfl (As := []) (rest := [.int x3]) rfl (Nat.le_of_ble_eq_true rfl) ⟨Nat.le_of_ble_eq_true rfl, Nat.le_of_ble_eq_true rfl⟩ ⟨Nat.le_of_ble_eq_true rfl, Nat.le_of_ble_eq_true rfl⟩ rfl rfl d_Y_addRow_7 ?_
  refine b_icmp_gt X (tgt := 56) d_Y_addRow_10 (by decide) (fun _ => ?_) (fun h => absurd c10 h)
  exact b_vret X d_Y_addRow_56 hp
theorem sg_Y_addRow_2_f2 {K : KX} {G : GG} {w0 : va_W} {Q : State → Prop} (X : Bd K G w0 "FirstTrees$Ways" c_Y_addRow 5 none rm_Y_addRow) (σ : St) (x1 : Int32) (x2 : Int32) (x3 : Int32) (n36 : Nat) (n43 : Nat) (c10 : ¬ (xi σ 12 0) < x3) (e36 : ((((x1 * 61) + x2) * 61) + x3) = nI n36) (h36 : n36 < 59536) (e43 : x3 = nI n43) (h43 : n43 < 61) (k : Lb K G w0 Q 5 2 [(0, .ref (xa σ 19)), (1, .int x1), (2, .int x2), (3, .int (x3 + 1))] [] (WC G (wi σ 20 n36 (Int64.toInt32 (lmin 1000000000 ((Int32.toInt64 (xi σ 20 n36)) + (xl σ 21 n43)))))) 0 0) : Lb K G w0 Q 5 2 [(0, .ref (xa σ 19)), (1, .int x1), (2, .int x2), (3, .int x3)] [] (WC G σ) 0 0 := by
  refine b_iload_n X d_Y_addRow_2 3 rfl rfl ?_
  refine b_aload_n X d_Y_addRow_3 0 rfl rfl ?_
  refine b_get X fl_Y_32 19 rfl (v := .ref (xa σ 12)) rfl d_Y_addRow_4 ?_
  refine b_dV X cf_C_end ci_C_end ml_Y_36 (ct_C_end_ G σ ) 12 rfl rfl (As := []) (rest := [.int x3]) rfl (Nat.le_of_ble_eq_true rfl) ⟨Nat.le_of_ble_eq_true rfl, Nat.le_of_ble_eq_true rfl⟩ ⟨Nat.le_of_ble_eq_true rfl, Nat.le_of_ble_eq_true rfl⟩ rfl rfl d_Y_addRow_7 ?_
  refine b_icmp_gt X (tgt := 56) d_Y_addRow_10 (by decide) (fun h => absurd h c10) (fun _ => ?_)
  refine b_iload_n X d_Y_addRow_13 1 rfl rfl ?_
  refine b_iload_n X d_Y_addRow_14 2 rfl rfl ?_
  refine b_iload_n X d_Y_addRow_15 3 rfl rfl ?_
  refine b_dS X cf_Y_at ci_Y_at ml_Y_57 (ct_Y_at_ G σ x1 x2 x3) (As := [.int x1, .int x2, .int x3]) (rest := []) rfl (Nat.le_of_ble_eq_true rfl) ⟨Nat.le_of_ble_eq_true rfl, Nat.le_of_ble_eq_true rfl⟩ ⟨Nat.le_of_ble_eq_true rfl, Nat.le_of_ble_eq_true rfl⟩ rfl rfl d_Y_addRow_16 ?_
  refine b_istore X (lv' := [(0, .ref (xa σ 19)), (1, .int x1), (2, .int x2), (3, .int x3), (4, .int ((((x1 * 61) + x2) * 61) + x3))]) d_Y_addRow_19 (by decide) [1, 2, 3, 4, 0] rfl ?_
  refine b_aload_n X d_Y_addRow_21 0 rfl rfl ?_
  refine b_get X fl_Y_10 19 rfl (v := .ref (xa σ 20)) rfl d_Y_addRow_22 ?_
  refine b_iload X d_Y_addRow_25 4 rfl ?_
  refine b_ldc2 X (v := 1000000000) kl_Y_80 d_Y_addRow_27 ?_
  refine b_aload_n X d_Y_addRow_30 0 rfl rfl ?_
  refine b_get X fl_Y_10 19 rfl (v := .ref (xa σ 20)) rfl d_Y_addRow_31 ?_
  refine b_iload X d_Y_addRow_34 4 rfl ?_
  refine b_iald X 20 rfl (by decide) n36 e36 h36 d_Y_addRow_36 ?_
  refine b_i2l X (v := (Int32.toInt64 (xi σ 20 n36))) d_Y_addRow_37 rfl ?_
  refine b_aload_n X d_Y_addRow_38 0 rfl rfl ?_
  refine b_get X fl_Y_16 19 rfl (v := .ref (xa σ 21)) rfl d_Y_addRow_39 ?_
  refine b_iload_n X d_Y_addRow_42 3 rfl rfl ?_
  refine b_lald X 21 rfl (by decide) n43 e43 h43 d_Y_addRow_43 ?_
  refine b_ladd X d_Y_addRow_44 ?_
  refine b_mminL X ml_Y_82 ⟨Nat.le_of_ble_eq_true rfl, Nat.le_of_ble_eq_true rfl, Nat.le_of_ble_eq_true rfl, Nat.le_of_ble_eq_true rfl⟩ d_Y_addRow_45 ?_
  refine b_l2i X (v := (Int64.toInt32 (lmin 1000000000 ((Int32.toInt64 (xi σ 20 n36)) + (xl σ 21 n43))))) d_Y_addRow_48 rfl ?_
  refine b_iast X 20 rfl (by decide) n36 e36 h36 (uWC_20 G σ n36 (Int64.toInt32 (lmin 1000000000 ((Int32.toInt64 (xi σ 20 n36)) + (xl σ 21 n43))))) d_Y_addRow_49 ?_
  refine b_iinc X (lv' := [(0, .ref (xa σ 19)), (1, .int x1), (2, .int x2), (3, .int (x3 + 1)), (4, .int ((((x1 * 61) + x2) * 61) + x3))]) d_Y_addRow_50 3 rfl (v := (x3 + 1)) rfl (by decide) [1, 2, 3, 0, 4] rfl ?_
  refine b_goto X (tgt := 2) d_Y_addRow_53 (by decide) ?_
  refine Lb.pick (lv' := [(0, .ref (xa σ 19)), (1, .int x1), (2, .int x2), (3, .int (x3 + 1))]) [0, 1, 2, 3] rfl ?_
  exact k
theorem sg_Y_readRow_0_2 {K : KX} {G : GG} {w0 : va_W} {Q : State → Prop} (X : Bd K G w0 "FirstTrees$Ways" c_Y_readRow 5 none rm_Y_readRow) (σ : St) (x1 : Int32) (x2 : Int32)   (k : Lb K G w0 Q 5 2 [(0, .ref (xa σ 19)), (1, .int x1), (2, .int x2), (3, .int x2)] [] (WC G σ) 0 0) : Lb K G w0 Q 5 0 [(0, .ref (xa σ 19)), (1, .int x1), (2, .int x2)] [] (WC G σ) 0 0 := by
  refine b_iload_n X d_Y_readRow_0 2 rfl rfl ?_
  refine b_istore_n X (lv' := [(0, .ref (xa σ 19)), (1, .int x1), (2, .int x2), (3, .int x2)]) d_Y_readRow_1 rfl (by decide) [1, 2, 3, 0] rfl ?_
  exact k
theorem sg_Y_readRow_2_t35 {K : KX} {G : GG} {w0 : va_W} {Q : State → Prop} (X : Bd K G w0 "FirstTrees$Ways" c_Y_readRow 5 none rm_Y_readRow) (σ : St) (x1 : Int32) (x2 : Int32) (x3 : Int32) (n32 : Nat) (c10 : (xi σ 12 0) < x3) (e32 : x2 = nI n32) (h32 : n32 < 61) (k : Lb K G w0 Q 5 35 [(0, .ref (xa σ 19)), (1, .int x1), (2, .int x2), (3, .int 0)] [] (WC G (wl σ 21 n32 1)) 0 0) : Lb K G w0 Q 5 2 [(0, .ref (xa σ 19)), (1, .int x1), (2, .int x2), (3, .int x3)] [] (WC G σ) 0 0 := by
  refine b_iload_n X d_Y_readRow_2 3 rfl rfl ?_
  refine b_aload_n X d_Y_readRow_3 0 rfl rfl ?_
  refine b_get X fl_Y_32 19 rfl (v := .ref (xa σ 12)) rfl d_Y_readRow_4 ?_
  refine b_dV X cf_C_end ci_C_end ml_Y_36 (ct_C_end_ G σ ) 12 rfl rfl (As := []) (rest := [.int x3]) rfl (Nat.le_of_ble_eq_true rfl) ⟨Nat.le_of_ble_eq_true rfl, Nat.le_of_ble_eq_true rfl⟩ ⟨Nat.le_of_ble_eq_true rfl, Nat.le_of_ble_eq_true rfl⟩ rfl rfl d_Y_readRow_7 ?_
  refine b_icmp_gt X (tgt := 26) d_Y_readRow_10 (by decide) (fun _ => ?_) (fun h => absurd c10 h)
  refine b_aload_n X d_Y_readRow_26 0 rfl rfl ?_
  refine b_get X fl_Y_16 19 rfl (v := .ref (xa σ 21)) rfl d_Y_readRow_27 ?_
  refine b_iload_n X d_Y_readRow_30 2 rfl rfl ?_
  refine b_lconst X (v := 1) d_Y_readRow_31 rfl ?_
  refine b_last X 21 rfl (by decide) n32 e32 h32 (uWC_21 G σ n32 1) d_Y_readRow_32 ?_
  refine b_iconst X (v := 0) d_Y_readRow_33 (by decide) ?_
  refine b_istore_n X (lv' := [(0, .ref (xa σ 19)), (1, .int x1), (2, .int x2), (3, .int 0)]) d_Y_readRow_34 rfl (by decide) [1, 2, 3, 0] rfl ?_
  exact k
theorem sg_Y_readRow_2_f2 {K : KX} {G : GG} {w0 : va_W} {Q : State → Prop} (X : Bd K G w0 "FirstTrees$Ways" c_Y_readRow 5 none rm_Y_readRow) (σ : St) (x1 : Int32) (x2 : Int32) (x3 : Int32) (n19 : Nat) (c10 : ¬ (xi σ 12 0) < x3) (e19 : x3 = nI n19) (h19 : n19 < 61) (k : Lb K G w0 Q 5 2 [(0, .ref (xa σ 19)), (1, .int x1), (2, .int x2), (3, .int (x3 + 1))] [] (WC G (wl σ 21 n19 0)) 0 0) : Lb K G w0 Q 5 2 [(0, .ref (xa σ 19)), (1, .int x1), (2, .int x2), (3, .int x3)] [] (WC G σ) 0 0 := by
  refine b_iload_n X d_Y_readRow_2 3 rfl rfl ?_
  refine b_aload_n X d_Y_readRow_3 0 rfl rfl ?_
  refine b_get X fl_Y_32 19 rfl (v := .ref (xa σ 12)) rfl d_Y_readRow_4 ?_
  refine b_dV X cf_C_end ci_C_end ml_Y_36 (ct_C_end_ G σ ) 12 rfl rfl (As := []) (rest := [.int x3]) rfl (Nat.le_of_ble_eq_true rfl) ⟨Nat.le_of_ble_eq_true rfl, Nat.le_of_ble_eq_true rfl⟩ ⟨Nat.le_of_ble_eq_true rfl, Nat.le_of_ble_eq_true rfl⟩ rfl rfl d_Y_readRow_7 ?_
  refine b_icmp_gt X (tgt := 26) d_Y_readRow_10 (by decide) (fun h => absurd h c10) (fun _ => ?_)
  refine b_aload_n X d_Y_readRow_13 0 rfl rfl ?_
  refine b_get X fl_Y_16 19 rfl (v := .ref (xa σ 21)) rfl d_Y_readRow_14 ?_
  refine b_iload_n X d_Y_readRow_17 3 rfl rfl ?_
  refine b_lconst X (v := 0) d_Y_readRow_18 rfl ?_
  refine b_last X 21 rfl (by decide) n19 e19 h19 (uWC_21 G σ n19 0) d_Y_readRow_19 ?_
  refine b_iinc X (lv' := [(0, .ref (xa σ 19)), (1, .int x1), (2, .int x2), (3, .int (x3 + 1))]) d_Y_readRow_20 3 rfl (v := (x3 + 1)) rfl (by decide) [1, 2, 3, 0] rfl ?_
  refine b_goto X (tgt := 2) d_Y_readRow_23 (by decide) ?_
  exact k
theorem sg_Y_readRow_35_tr {K : KX} {G : GG} {w0 : va_W} {post : PostT} (X : Bd K G w0 "FirstTrees$Ways" c_Y_readRow 5 none rm_Y_readRow) (σ : St) (x1 : Int32) (x2 : Int32) (x3 : Int32) (n41 : Nat) (e41 : x1 = nI n41) (h41 : n41 < 128) (c44 : (xi σ 3 n41) ≤ x3) (hp : post none (WC G σ)) : Lb K G w0 (Qe K G w0 post rm_Y_readRow) 5 35 [(0, .ref (xa σ 19)), (1, .int x1), (2, .int x2), (3, .int x3)] [] (WC G σ) 0 0 := by
  refine b_iload_n X d_Y_readRow_35 3 rfl rfl ?_
  refine b_aload_n X d_Y_readRow_36 0 rfl rfl ?_
  refine b_get X fl_Y_20 19 rfl (v := .ref (xa σ 1)) rfl d_Y_readRow_37 ?_
  refine b_iload_n X d_Y_readRow_40 1 rfl rfl ?_
  refine b_dV X cf_G_length ci_G_length ml_Y_88 (ct_G_length_ G σ x1 n41 e41 h41) 1 rfl rfl (As := [.int x1]) (rest := [.int x3]) rfl (Nat.le_of_ble_eq_true rfl) ⟨Nat.le_of_ble_eq_true rfl, Nat.le_of_ble_eq_true rfl⟩ ⟨Nat.le_of_ble_eq_true rfl, Nat.le_of_ble_eq_true rfl⟩ rfl rfl d_Y_readRow_41 ?_
  refine b_icmp_ge X (tgt := 92) d_Y_readRow_44 (by decide) (fun _ => ?_) (fun h => absurd c44 h)
  exact b_vret X d_Y_readRow_92 hp
theorem sg_Y_readRow_35_ft35 {K : KX} {G : GG} {w0 : va_W} {Q : State → Prop} (X : Bd K G w0 "FirstTrees$Ways" c_Y_readRow 5 none rm_Y_readRow) (σ : St) (x1 : Int32) (x2 : Int32) (x3 : Int32) (n41 : Nat) (n53 : Nat) (q83 : Sq) (e41 : x1 = nI n41) (h41 : n41 < 128) (c44 : ¬ (xi σ 3 n41) ≤ x3) (e53 : ((x1 * 8) + x3) = nI n53) (h53 : n53 < 1024) (c63 : (b2i (0 ≤ (xi σ 4 n53))) = 0) (t83 : Ct y_Y_readRule c_Y_readRule 6 none rm_Y_readRule G [.ref (xa σ 19), .int ((-1) - (xi σ 4 n53)), .int x2] (WC G σ) (eqp (none) (WC G (xa σ, q83)))) (k : Lb K G w0 Q 5 35 [(0, .ref (xa σ 19)), (1, .int x1), (2, .int x2), (3, .int (x3 + 1))] [] (WC G (xa σ, q83)) 0 0) : Lb K G w0 Q 5 35 [(0, .ref (xa σ 19)), (1, .int x1), (2, .int x2), (3, .int x3)] [] (WC G σ) 0 0 := by
  refine b_iload_n X d_Y_readRow_35 3 rfl rfl ?_
  refine b_aload_n X d_Y_readRow_36 0 rfl rfl ?_
  refine b_get X fl_Y_20 19 rfl (v := .ref (xa σ 1)) rfl d_Y_readRow_37 ?_
  refine b_iload_n X d_Y_readRow_40 1 rfl rfl ?_
  refine b_dV X cf_G_length ci_G_length ml_Y_88 (ct_G_length_ G σ x1 n41 e41 h41) 1 rfl rfl (As := [.int x1]) (rest := [.int x3]) rfl (Nat.le_of_ble_eq_true rfl) ⟨Nat.le_of_ble_eq_true rfl, Nat.le_of_ble_eq_true rfl⟩ ⟨Nat.le_of_ble_eq_true rfl, Nat.le_of_ble_eq_true rfl⟩ rfl rfl d_Y_readRow_41 ?_
  refine b_icmp_ge X (tgt := 92) d_Y_readRow_44 (by decide) (fun h => absurd h c44) (fun _ => ?_)
  refine b_aload_n X d_Y_readRow_47 0 rfl rfl ?_
  refine b_get X fl_Y_20 19 rfl (v := .ref (xa σ 1)) rfl d_Y_readRow_48 ?_
  refine b_iload_n X d_Y_readRow_51 1 rfl rfl ?_
  refine b_iload_n X d_Y_readRow_52 3 rfl rfl ?_
  refine b_dV X cf_G_symbolAt ci_G_symbolAt ml_Y_91 (ct_G_symbolAt_ G σ x1 x3 n53 e53 h53) 1 rfl rfl (As := [.int x1, .int x3]) (rest := []) rfl (Nat.le_of_ble_eq_true rfl) ⟨Nat.le_of_ble_eq_true rfl, Nat.le_of_ble_eq_true rfl⟩ ⟨Nat.le_of_ble_eq_true rfl, Nat.le_of_ble_eq_true rfl⟩ rfl rfl d_Y_readRow_53 ?_
  refine b_istore X (lv' := [(0, .ref (xa σ 19)), (1, .int x1), (2, .int x2), (3, .int x3), (4, .int (xi σ 4 n53))]) d_Y_readRow_56 (by decide) [1, 2, 3, 4, 0] rfl ?_
  refine b_iload X d_Y_readRow_58 4 rfl ?_
  refine b_dS X cf_G_isToken ci_G_isToken ml_Y_94 (ct_G_isToken G σ (xi σ 4 n53)) (As := [.int (xi σ 4 n53)]) (rest := []) rfl (Nat.le_of_ble_eq_true rfl) ⟨Nat.le_of_ble_eq_true rfl, Nat.le_of_ble_eq_true rfl⟩ ⟨Nat.le_of_ble_eq_true rfl, Nat.le_of_ble_eq_true rfl⟩ rfl rfl d_Y_readRow_60 ?_
  refine b_if_eq X (tgt := 76) d_Y_readRow_63 (by decide) (fun _ => ?_) (fun h => absurd c63 h)
  refine b_aload_n X d_Y_readRow_76 0 rfl rfl ?_
  refine b_iload X d_Y_readRow_77 4 rfl ?_
  refine b_dS X cf_G_ruleOf ci_G_ruleOf ml_Y_101 (ct_G_ruleOf_ G σ (xi σ 4 n53)) (As := [.int (xi σ 4 n53)]) (rest := [.ref (xa σ 19)]) rfl (Nat.le_of_ble_eq_true rfl) ⟨Nat.le_of_ble_eq_true rfl, Nat.le_of_ble_eq_true rfl⟩ ⟨Nat.le_of_ble_eq_true rfl, Nat.le_of_ble_eq_true rfl⟩ rfl rfl d_Y_readRow_79 ?_
  refine b_iload_n X d_Y_readRow_82 2 rfl rfl ?_
  refine b_dV X cf_Y_readRule ci_Y_readRule ml_Y_104 t83 19 rfl rfl (As := [.int ((-1) - (xi σ 4 n53)), .int x2]) (rest := []) rfl (Nat.le_of_ble_eq_true rfl) ⟨Nat.le_of_ble_eq_true rfl, Nat.le_of_ble_eq_true rfl⟩ ⟨Nat.le_of_ble_eq_true rfl, Nat.le_of_ble_eq_true rfl⟩ rfl rfl d_Y_readRow_83 ?_
  refine b_iinc X (lv' := [(0, .ref (xa σ 19)), (1, .int x1), (2, .int x2), (3, .int (x3 + 1)), (4, .int (xi σ 4 n53))]) d_Y_readRow_86 3 rfl (v := (x3 + 1)) rfl (by decide) [1, 2, 3, 0, 4] rfl ?_
  refine b_goto X (tgt := 35) d_Y_readRow_89 (by decide) ?_
  refine Lb.pick (lv' := [(0, .ref (xa σ 19)), (1, .int x1), (2, .int x2), (3, .int (x3 + 1))]) [0, 1, 2, 3] rfl ?_
  exact k
theorem sg_Y_readRow_35_ff35 {K : KX} {G : GG} {w0 : va_W} {Q : State → Prop} (X : Bd K G w0 "FirstTrees$Ways" c_Y_readRow 5 none rm_Y_readRow) (σ : St) (x1 : Int32) (x2 : Int32) (x3 : Int32) (n41 : Nat) (n53 : Nat) (q70 : Sq) (e41 : x1 = nI n41) (h41 : n41 < 128) (c44 : ¬ (xi σ 3 n41) ≤ x3) (e53 : ((x1 * 8) + x3) = nI n53) (h53 : n53 < 1024) (c63 : ¬ (b2i (0 ≤ (xi σ 4 n53))) = 0) (t70 : Ct y_Y_readToken c_Y_readToken 4 none rm_Y_readToken G [.ref (xa σ 19), .int (xi σ 4 n53), .int x2] (WC G σ) (eqp (none) (WC G (xa σ, q70)))) (k : Lb K G w0 Q 5 35 [(0, .ref (xa σ 19)), (1, .int x1), (2, .int x2), (3, .int (x3 + 1))] [] (WC G (xa σ, q70)) 0 0) : Lb K G w0 Q 5 35 [(0, .ref (xa σ 19)), (1, .int x1), (2, .int x2), (3, .int x3)] [] (WC G σ) 0 0 := by
  refine b_iload_n X d_Y_readRow_35 3 rfl rfl ?_
  refine b_aload_n X d_Y_readRow_36 0 rfl rfl ?_
  refine b_get X fl_Y_20 19 rfl (v := .ref (xa σ 1)) rfl d_Y_readRow_37 ?_
  refine b_iload_n X d_Y_readRow_40 1 rfl rfl ?_
  refine b_dV X cf_G_length ci_G_length ml_Y_88 (ct_G_length_ G σ x1 n41 e41 h41) 1 rfl rfl (As := [.int x1]) (rest := [.int x3]) rfl (Nat.le_of_ble_eq_true rfl) ⟨Nat.le_of_ble_eq_true rfl, Nat.le_of_ble_eq_true rfl⟩ ⟨Nat.le_of_ble_eq_true rfl, Nat.le_of_ble_eq_true rfl⟩ rfl rfl d_Y_readRow_41 ?_
  refine b_icmp_ge X (tgt := 92) d_Y_readRow_44 (by decide) (fun h => absurd h c44) (fun _ => ?_)
  refine b_aload_n X d_Y_readRow_47 0 rfl rfl ?_
  refine b_get X fl_Y_20 19 rfl (v := .ref (xa σ 1)) rfl d_Y_readRow_48 ?_
  refine b_iload_n X d_Y_readRow_51 1 rfl rfl ?_
  refine b_iload_n X d_Y_readRow_52 3 rfl rfl ?_
  refine b_dV X cf_G_symbolAt ci_G_symbolAt ml_Y_91 (ct_G_symbolAt_ G σ x1 x3 n53 e53 h53) 1 rfl rfl (As := [.int x1, .int x3]) (rest := []) rfl (Nat.le_of_ble_eq_true rfl) ⟨Nat.le_of_ble_eq_true rfl, Nat.le_of_ble_eq_true rfl⟩ ⟨Nat.le_of_ble_eq_true rfl, Nat.le_of_ble_eq_true rfl⟩ rfl rfl d_Y_readRow_53 ?_
  refine b_istore X (lv' := [(0, .ref (xa σ 19)), (1, .int x1), (2, .int x2), (3, .int x3), (4, .int (xi σ 4 n53))]) d_Y_readRow_56 (by decide) [1, 2, 3, 4, 0] rfl ?_
  refine b_iload X d_Y_readRow_58 4 rfl ?_
  refine b_dS X cf_G_isToken ci_G_isToken ml_Y_94 (ct_G_isToken G σ (xi σ 4 n53)) (As := [.int (xi σ 4 n53)]) (rest := []) rfl (Nat.le_of_ble_eq_true rfl) ⟨Nat.le_of_ble_eq_true rfl, Nat.le_of_ble_eq_true rfl⟩ ⟨Nat.le_of_ble_eq_true rfl, Nat.le_of_ble_eq_true rfl⟩ rfl rfl d_Y_readRow_60 ?_
  refine b_if_eq X (tgt := 76) d_Y_readRow_63 (by decide) (fun h => absurd h c63) (fun _ => ?_)
  refine b_aload_n X d_Y_readRow_66 0 rfl rfl ?_
  refine b_iload X d_Y_readRow_67 4 rfl ?_
  refine b_iload_n X d_Y_readRow_69 2 rfl rfl ?_
  refine b_dV X cf_Y_readToken ci_Y_readToken ml_Y_98 t70 19 rfl rfl (As := [.int (xi σ 4 n53), .int x2]) (rest := []) rfl (Nat.le_of_ble_eq_true rfl) ⟨Nat.le_of_ble_eq_true rfl, Nat.le_of_ble_eq_true rfl⟩ ⟨Nat.le_of_ble_eq_true rfl, Nat.le_of_ble_eq_true rfl⟩ rfl rfl d_Y_readRow_70 ?_
  refine b_goto X (tgt := 86) d_Y_readRow_73 (by decide) ?_
  refine b_iinc X (lv' := [(0, .ref (xa σ 19)), (1, .int x1), (2, .int x2), (3, .int (x3 + 1)), (4, .int (xi σ 4 n53))]) d_Y_readRow_86 3 rfl (v := (x3 + 1)) rfl (by decide) [1, 2, 3, 0, 4] rfl ?_
  refine b_goto X (tgt := 35) d_Y_readRow_89 (by decide) ?_
  refine Lb.pick (lv' := [(0, .ref (xa σ 19)), (1, .int x1), (2, .int x2), (3, .int (x3 + 1))]) [0, 1, 2, 3] rfl ?_
  exact k
theorem sg_Y_readToken_0_8 {K : KX} {G : GG} {w0 : va_W} {Q : State → Prop} (X : Bd K G w0 "FirstTrees$Ways" c_Y_readToken 4 none rm_Y_readToken) (σ : St) (x1 : Int32) (x2 : Int32)   (k : Lb K G w0 Q 4 8 [(0, .ref (xa σ 19)), (1, .int x1), (2, .int x2), (3, .int (xi σ 12 0))] [] (WC G σ) 0 0) : Lb K G w0 Q 4 0 [(0, .ref (xa σ 19)), (1, .int x1), (2, .int x2)] [] (WC G σ) 0 0 := by
  refine b_aload_n X d_Y_readToken_0 0 rfl rfl ?_
  refine b_get X fl_Y_32 19 rfl (v := .ref (xa σ 12)) rfl d_Y_readToken_1 ?_
  refine b_dV X cf_C_end ci_C_end ml_Y_36 (ct_C_end_ G σ ) 12 rfl rfl (As := []) (rest := []) rfl (Nat.le_of_ble_eq_true rfl) ⟨Nat.le_of_ble_eq_true rfl, Nat.le_of_ble_eq_true rfl⟩ ⟨Nat.le_of_ble_eq_true rfl, Nat.le_of_ble_eq_true rfl⟩ rfl rfl d_Y_readToken_4 ?_
  refine b_istore_n X (lv' := [(0, .ref (xa σ 19)), (1, .int x1), (2, .int x2), (3, .int (xi σ 12 0))]) d_Y_readToken_7 rfl (by decide) [1, 2, 3, 0] rfl ?_
  exact k
theorem sg_Y_readToken_8_tr {K : KX} {G : GG} {w0 : va_W} {post : PostT} (X : Bd K G w0 "FirstTrees$Ways" c_Y_readToken 4 none rm_Y_readToken) (σ : St) (x1 : Int32) (x2 : Int32) (x3 : Int32) (n57 : Nat) (c10 : x3 ≤ x2) (e57 : x2 = nI n57) (h57 : n57 < 61) (hp : post none (WC G (wl σ 21 n57 0))) : Lb K G w0 (Qe K G w0 post rm_Y_readToken) 4 8 [(0, .ref (xa σ 19)), (1, .int x1), (2, .int x2), (3, .int x3)] [] (WC G σ) 0 0 := by
  refine b_iload_n X d_Y_readToken_8 3 rfl rfl ?_
  refine b_iload_n X d_Y_readToken_9 2 rfl rfl ?_
  refine b_icmp_le X (tgt := 51) d_Y_readToken_10 (by decide) (fun _ => ?_) (fun h => absurd c10 h)
  refine b_aload_n X d_Y_readToken_51 0 rfl rfl ?_
  refine b_get X fl_Y_16 19 rfl (v := .ref (xa σ 21)) rfl d_Y_readToken_52 ?_
  refine b_iload_n X d_Y_readToken_55 2 rfl rfl ?_
  refine b_lconst X (v := 0) d_Y_readToken_56 rfl ?_
  refine b_last X 21 rfl (by decide) n57 e57 h57 (uWC_21 G σ n57 0) d_Y_readToken_57 ?_
  exact b_vret X d_Y_readToken_58 hp
theorem sg_Y_readToken_8_ft8 {K : KX} {G : GG} {w0 : va_W} {Q : State → Prop} (X : Bd K G w0 "FirstTrees$Ways" c_Y_readToken 4 none rm_Y_readToken) (σ : St) (x1 : Int32) (x2 : Int32) (x3 : Int32) (n25 : Nat) (n44 : Nat) (c10 : ¬ x3 ≤ x2) (e25 : (x3 - 1) = nI n25) (h25 : n25 < 60) (c29 : ¬ (xi σ 11 n25) = x1) (e44 : x3 = nI n44) (h44 : n44 < 61) (k : Lb K G w0 Q 4 8 [(0, .ref (xa σ 19)), (1, .int x1), (2, .int x2), (3, .int (x3 + (-1)))] [] (WC G (wl σ 21 n44 0)) 0 0) : Lb K G w0 Q 4 8 [(0, .ref (xa σ 19)), (1, .int x1), (2, .int x2), (3, .int x3)] [] (WC G σ) 0 0 := by
  refine b_iload_n X d_Y_readToken_8 3 rfl rfl ?_
  refine b_iload_n X d_Y_readToken_9 2 rfl rfl ?_
  refine b_icmp_le X (tgt := 51) d_Y_readToken_10 (by decide) (fun h => absurd h c10) (fun _ => ?_)
  refine b_aload_n X d_Y_readToken_13 0 rfl rfl ?_
  refine b_get X fl_Y_16 19 rfl (v := .ref (xa σ 21)) rfl d_Y_readToken_14 ?_
  refine b_iload_n X d_Y_readToken_17 3 rfl rfl ?_
  refine b_aload_n X d_Y_readToken_18 0 rfl rfl ?_
  refine b_get X fl_Y_28 19 rfl (v := .ref (xa σ 10)) rfl d_Y_readToken_19 ?_
  refine b_iload_n X d_Y_readToken_22 3 rfl rfl ?_
  refine b_iconst X (v := 1) d_Y_readToken_23 (by decide) ?_
  refine b_isub X d_Y_readToken_24 ?_
  refine b_dV X cf_I_tokenAt ci_I_tokenAt ml_Y_107 (ct_I_tokenAt_ G σ (x3 - 1) n25 e25 h25) 10 rfl rfl (As := [.int (x3 - 1)]) (rest := [.int x3, .ref (xa σ 21)]) rfl (Nat.le_of_ble_eq_true rfl) ⟨Nat.le_of_ble_eq_true rfl, Nat.le_of_ble_eq_true rfl⟩ ⟨Nat.le_of_ble_eq_true rfl, Nat.le_of_ble_eq_true rfl⟩ rfl rfl d_Y_readToken_25 ?_
  refine b_iload_n X d_Y_readToken_28 1 rfl rfl ?_
  refine b_icmp_ne X (tgt := 43) d_Y_readToken_29 (by decide) (fun _ => ?_) (fun h => absurd h c29)
  refine b_lconst X (v := 0) d_Y_readToken_43 rfl ?_
  refine b_last X 21 rfl (by decide) n44 e44 h44 (uWC_21 G σ n44 0) d_Y_readToken_44 ?_
  refine b_iinc X (lv' := [(0, .ref (xa σ 19)), (1, .int x1), (2, .int x2), (3, .int (x3 + (-1)))]) d_Y_readToken_45 3 rfl (v := (x3 + (-1))) rfl (by decide) [1, 2, 3, 0] rfl ?_
  refine b_goto X (tgt := 8) d_Y_readToken_48 (by decide) ?_
  exact k
theorem sg_Y_readToken_8_ff8 {K : KX} {G : GG} {w0 : va_W} {Q : State → Prop} (X : Bd K G w0 "FirstTrees$Ways" c_Y_readToken 4 none rm_Y_readToken) (σ : St) (x1 : Int32) (x2 : Int32) (x3 : Int32) (n25 : Nat) (n44 : Nat) (c10 : ¬ x3 ≤ x2) (e25 : (x3 - 1) = nI n25) (h25 : n25 < 60) (c29 : (xi σ 11 n25) = x1) (e44 : x3 = nI n44) (h44 : n44 < 61) (k : Lb K G w0 Q 4 8 [(0, .ref (xa σ 19)), (1, .int x1), (2, .int x2), (3, .int (x3 + (-1)))] [] (WC G (wl σ 21 n44 (xl σ 21 n25))) 0 0) : Lb K G w0 Q 4 8 [(0, .ref (xa σ 19)), (1, .int x1), (2, .int x2), (3, .int x3)] [] (WC G σ) 0 0 := by
  refine b_iload_n X d_Y_readToken_8 3 rfl rfl ?_
  refine b_iload_n X d_Y_readToken_9 2 rfl rfl ?_
  refine b_icmp_le X (tgt := 51) d_Y_readToken_10 (by decide) (fun h => absurd h c10) (fun _ => ?_)
  refine b_aload_n X d_Y_readToken_13 0 rfl rfl ?_
  refine b_get X fl_Y_16 19 rfl (v := .ref (xa σ 21)) rfl d_Y_readToken_14 ?_
  refine b_iload_n X d_Y_readToken_17 3 rfl rfl ?_
  refine b_aload_n X d_Y_readToken_18 0 rfl rfl ?_
  refine b_get X fl_Y_28 19 rfl (v := .ref (xa σ 10)) rfl d_Y_readToken_19 ?_
  refine b_iload_n X d_Y_readToken_22 3 rfl rfl ?_
  refine b_iconst X (v := 1) d_Y_readToken_23 (by decide) ?_
  refine b_isub X d_Y_readToken_24 ?_
  refine b_dV X cf_I_tokenAt ci_I_tokenAt ml_Y_107 (ct_I_tokenAt_ G σ (x3 - 1) n25 e25 h25) 10 rfl rfl (As := [.int (x3 - 1)]) (rest := [.int x3, .ref (xa σ 21)]) rfl (Nat.le_of_ble_eq_true rfl) ⟨Nat.le_of_ble_eq_true rfl, Nat.le_of_ble_eq_true rfl⟩ ⟨Nat.le_of_ble_eq_true rfl, Nat.le_of_ble_eq_true rfl⟩ rfl rfl d_Y_readToken_25 ?_
  refine b_iload_n X d_Y_readToken_28 1 rfl rfl ?_
  refine b_icmp_ne X (tgt := 43) d_Y_readToken_29 (by decide) (fun h => absurd c29 h) (fun _ => ?_)
  refine b_aload_n X d_Y_readToken_32 0 rfl rfl ?_
  refine b_get X fl_Y_16 19 rfl (v := .ref (xa σ 21)) rfl d_Y_readToken_33 ?_
  refine b_iload_n X d_Y_readToken_36 3 rfl rfl ?_
  refine b_iconst X (v := 1) d_Y_readToken_37 (by decide) ?_
  refine b_isub X d_Y_readToken_38 ?_
  refine b_lald X 21 rfl (by decide) n25 e25 (Nat.lt_of_lt_of_le h25 (by decide)) d_Y_readToken_39 ?_
  refine b_goto X (tgt := 44) d_Y_readToken_40 (by decide) ?_
  refine b_last X 21 rfl (by decide) n44 e44 h44 (uWC_21 G σ n44 (xl σ 21 n25)) d_Y_readToken_44 ?_
  refine b_iinc X (lv' := [(0, .ref (xa σ 19)), (1, .int x1), (2, .int x2), (3, .int (x3 + (-1)))]) d_Y_readToken_45 3 rfl (v := (x3 + (-1))) rfl (by decide) [1, 2, 3, 0] rfl ?_
  refine b_goto X (tgt := 8) d_Y_readToken_48 (by decide) ?_
  exact k
theorem sg_Y_readRule_0_8 {K : KX} {G : GG} {w0 : va_W} {Q : State → Prop} (X : Bd K G w0 "FirstTrees$Ways" c_Y_readRule 6 none rm_Y_readRule) (σ : St) (x1 : Int32) (x2 : Int32)   (k : Lb K G w0 Q 6 8 [(0, .ref (xa σ 19)), (1, .int x1), (2, .int x2), (3, .int (xi σ 12 0))] [] (WC G σ) 0 0) : Lb K G w0 Q 6 0 [(0, .ref (xa σ 19)), (1, .int x1), (2, .int x2)] [] (WC G σ) 0 0 := by
  refine b_aload_n X d_Y_readRule_0 0 rfl rfl ?_
  refine b_get X fl_Y_32 19 rfl (v := .ref (xa σ 12)) rfl d_Y_readRule_1 ?_
  refine b_dV X cf_C_end ci_C_end ml_Y_36 (ct_C_end_ G σ ) 12 rfl rfl (As := []) (rest := []) rfl (Nat.le_of_ble_eq_true rfl) ⟨Nat.le_of_ble_eq_true rfl, Nat.le_of_ble_eq_true rfl⟩ ⟨Nat.le_of_ble_eq_true rfl, Nat.le_of_ble_eq_true rfl⟩ rfl rfl d_Y_readRule_4 ?_
  refine b_istore_n X (lv' := [(0, .ref (xa σ 19)), (1, .int x1), (2, .int x2), (3, .int (xi σ 12 0))]) d_Y_readRule_7 rfl (by decide) [1, 2, 3, 0] rfl ?_
  exact k
theorem sg_Y_readRule_8_tr {K : KX} {G : GG} {w0 : va_W} {post : PostT} (X : Bd K G w0 "FirstTrees$Ways" c_Y_readRule 6 none rm_Y_readRule) (σ : St) (x1 : Int32) (x2 : Int32) (x3 : Int32)  (c10 : x3 < x2) (hp : post none (WC G σ)) : Lb K G w0 (Qe K G w0 post rm_Y_readRule) 6 8 [(0, .ref (xa σ 19)), (1, .int x1), (2, .int x2), (3, .int x3)] [] (WC G σ) 0 0 := by
  refine b_iload_n X d_Y_readRule_8 3 rfl rfl ?_
  refine b_iload_n X d_Y_readRule_9 2 rfl rfl ?_
  refine b_icmp_lt X (tgt := 49) d_Y_readRule_10 (by decide) (fun _ => ?_) (fun h => absurd c10 h)
  exact b_vret X d_Y_readRule_49 hp
theorem sg_Y_readRule_8_ft8 {K : KX} {G : GG} {w0 : va_W} {Q : State → Prop} (X : Bd K G w0 "FirstTrees$Ways" c_Y_readRule 6 none rm_Y_readRule) (σ : St) (x1 : Int32) (x2 : Int32) (x3 : Int32) (n18 : Nat) (c10 : ¬ x3 < x2) (e18 : x3 = nI n18) (h18 : n18 < 61) (c31 : (xl σ 21 n18) = 0) (k : Lb K G w0 Q 6 8 [(0, .ref (xa σ 19)), (1, .int x1), (2, .int x2), (3, .int (x3 + (-1)))] [] (WC G (wl σ 21 n18 0)) 0 0) : Lb K G w0 Q 6 8 [(0, .ref (xa σ 19)), (1, .int x1), (2, .int x2), (3, .int x3)] [] (WC G σ) 0 0 := by
  refine b_iload_n X d_Y_readRule_8 3 rfl rfl ?_
  refine b_iload_n X d_Y_readRule_9 2 rfl rfl ?_
  refine b_icmp_lt X (tgt := 49) d_Y_readRule_10 (by decide) (fun h => absurd h c10) (fun _ => ?_)
  refine b_aload_n X d_Y_readRule_13 0 rfl rfl ?_
  refine b_get X fl_Y_16 19 rfl (v := .ref (xa σ 21)) rfl d_Y_readRule_14 ?_
  refine b_iload_n X d_Y_readRule_17 3 rfl rfl ?_
  refine b_lald X 21 rfl (by decide) n18 e18 h18 d_Y_readRule_18 ?_
  refine b_lstore X (lv' := [(0, .ref (xa σ 19)), (1, .int x1), (2, .int x2), (3, .int x3), (4, .long (xl σ 21 n18))]) d_Y_readRule_19 (by decide) [1, 2, 3, 4, 0] rfl ?_
  refine b_aload_n X d_Y_readRule_21 0 rfl rfl ?_
  refine b_get X fl_Y_16 19 rfl (v := .ref (xa σ 21)) rfl d_Y_readRule_22 ?_
  refine b_iload_n X d_Y_readRule_25 3 rfl rfl ?_
  refine b_lconst X (v := 0) d_Y_readRule_26 rfl ?_
  refine b_last X 21 rfl (by decide) n18 e18 h18 (uWC_21 G σ n18 0) d_Y_readRule_27 ?_
  refine b_lload X d_Y_readRule_28 4 rfl ?_
  refine b_lconst X (v := 0) d_Y_readRule_30 rfl ?_
  refine b_l_eq X (tgt := 43) d_Y_readRule_31 d_Y_readRule_32 (by decide) (fun _ => ?_) (fun h => absurd c31 h)
  refine b_iinc X (lv' := [(0, .ref (xa σ 19)), (1, .int x1), (2, .int x2), (3, .int (x3 + (-1))), (4, .long (xl σ 21 n18))]) d_Y_readRule_43 3 rfl (v := (x3 + (-1))) rfl (by decide) [1, 2, 3, 0, 4] rfl ?_
  refine b_goto X (tgt := 8) d_Y_readRule_46 (by decide) ?_
  refine Lb.pick (lv' := [(0, .ref (xa σ 19)), (1, .int x1), (2, .int x2), (3, .int (x3 + (-1)))]) [0, 1, 2, 3] rfl ?_
  exact k
theorem sg_Y_readRule_8_ff8 {K : KX} {G : GG} {w0 : va_W} {Q : State → Prop} (X : Bd K G w0 "FirstTrees$Ways" c_Y_readRule 6 none rm_Y_readRule) (σ : St) (x1 : Int32) (x2 : Int32) (x3 : Int32) (n18 : Nat) (q40 : Sq) (c10 : ¬ x3 < x2) (e18 : x3 = nI n18) (h18 : n18 < 61) (c31 : ¬ (xl σ 21 n18) = 0) (t40 : Ct y_Y_spread c_Y_spread 8 none rm_Y_spread G [.ref (xa σ 19), .long (xl σ 21 n18), .int x1, .int x3] (WC G (wl σ 21 n18 0)) (eqp (none) (WC G (xa σ, q40)))) (k : Lb K G w0 Q 6 8 [(0, .ref (xa σ 19)), (1, .int x1), (2, .int x2), (3, .int (x3 + (-1)))] [] (WC G (xa σ, q40)) 0 0) : Lb K G w0 Q 6 8 [(0, .ref (xa σ 19)), (1, .int x1), (2, .int x2), (3, .int x3)] [] (WC G σ) 0 0 := by
  refine b_iload_n X d_Y_readRule_8 3 rfl rfl ?_
  refine b_iload_n X d_Y_readRule_9 2 rfl rfl ?_
  refine b_icmp_lt X (tgt := 49) d_Y_readRule_10 (by decide) (fun h => absurd h c10) (fun _ => ?_)
  refine b_aload_n X d_Y_readRule_13 0 rfl rfl ?_
  refine b_get X fl_Y_16 19 rfl (v := .ref (xa σ 21)) rfl d_Y_readRule_14 ?_
  refine b_iload_n X d_Y_readRule_17 3 rfl rfl ?_
  refine b_lald X 21 rfl (by decide) n18 e18 h18 d_Y_readRule_18 ?_
  refine b_lstore X (lv' := [(0, .ref (xa σ 19)), (1, .int x1), (2, .int x2), (3, .int x3), (4, .long (xl σ 21 n18))]) d_Y_readRule_19 (by decide) [1, 2, 3, 4, 0] rfl ?_
  refine b_aload_n X d_Y_readRule_21 0 rfl rfl ?_
  refine b_get X fl_Y_16 19 rfl (v := .ref (xa σ 21)) rfl d_Y_readRule_22 ?_
  refine b_iload_n X d_Y_readRule_25 3 rfl rfl ?_
  refine b_lconst X (v := 0) d_Y_readRule_26 rfl ?_
  refine b_last X 21 rfl (by decide) n18 e18 h18 (uWC_21 G σ n18 0) d_Y_readRule_27 ?_
  refine b_lload X d_Y_readRule_28 4 rfl ?_
  refine b_lconst X (v := 0) d_Y_readRule_30 rfl ?_
  refine b_l_eq X (tgt := 43) d_Y_readRule_31 d_Y_readRule_32 (by decide) (fun h => absurd h c31) (fun _ => ?_)
  refine b_aload_n X d_Y_readRule_35 0 rfl rfl ?_
  refine b_lload X d_Y_readRule_36 4 rfl ?_
  refine b_iload_n X d_Y_readRule_38 1 rfl rfl ?_
  refine b_iload_n X d_Y_readRule_39 3 rfl rfl ?_
  refine b_dV X cf_Y_spread ci_Y_spread ml_Y_112 t40 19 rfl rfl (As := [.long (xl σ 21 n18), .int x1, .int x3]) (rest := []) rfl (Nat.le_of_ble_eq_true rfl) ⟨Nat.le_of_ble_eq_true rfl, Nat.le_of_ble_eq_true rfl⟩ ⟨Nat.le_of_ble_eq_true rfl, Nat.le_of_ble_eq_true rfl⟩ rfl rfl d_Y_readRule_40 ?_
  refine b_iinc X (lv' := [(0, .ref (xa σ 19)), (1, .int x1), (2, .int x2), (3, .int (x3 + (-1))), (4, .long (xl σ 21 n18))]) d_Y_readRule_43 3 rfl (v := (x3 + (-1))) rfl (by decide) [1, 2, 3, 0, 4] rfl ?_
  refine b_goto X (tgt := 8) d_Y_readRule_46 (by decide) ?_
  refine Lb.pick (lv' := [(0, .ref (xa σ 19)), (1, .int x1), (2, .int x2), (3, .int (x3 + (-1)))]) [0, 1, 2, 3] rfl ?_
  exact k
theorem sg_Y_spread_0_4 {K : KX} {G : GG} {w0 : va_W} {Q : State → Prop} (X : Bd K G w0 "FirstTrees$Ways" c_Y_spread 8 none rm_Y_spread) (σ : St) (x1 : Int64) (x3 : Int32) (x4 : Int32)   (k : Lb K G w0 Q 8 4 [(0, .ref (xa σ 19)), (1, .long x1), (3, .int x3), (4, .int x4), (5, .int x4)] [] (WC G σ) 0 0) : Lb K G w0 Q 8 0 [(0, .ref (xa σ 19)), (1, .long x1), (3, .int x3), (4, .int x4)] [] (WC G σ) 0 0 := by
  refine b_iload X d_Y_spread_0 3 rfl ?_
  refine b_istore X (lv' := [(0, .ref (xa σ 19)), (1, .long x1), (3, .int x3), (4, .int x4), (5, .int x4)]) d_Y_spread_2 (by decide) [1, 2, 3, 4, 0] rfl ?_
  exact k
theorem sg_Y_spread_4_tr {K : KX} {G : GG} {w0 : va_W} {post : PostT} (X : Bd K G w0 "FirstTrees$Ways" c_Y_spread 8 none rm_Y_spread) (σ : St) (x1 : Int64) (x3 : Int32) (x4 : Int32) (x5 : Int32)  (c13 : (xi σ 12 0) < x5) (hp : post none (WC G σ)) : Lb K G w0 (Qe K G w0 post rm_Y_spread) 8 4 [(0, .ref (xa σ 19)), (1, .long x1), (3, .int x3), (4, .int x4), (5, .int x5)] [] (WC G σ) 0 0 := by
  refine b_iload X d_Y_spread_4 4 rfl ?_
  refine b_aload_n X d_Y_spread_6 0 rfl rfl ?_
  refine b_get X fl_Y_32 19 rfl (v := .ref (xa σ 12)) rfl d_Y_spread_7 ?_
  refine b_dV X cf_C_end ci_C_end ml_Y_36 (ct_C_end_ G σ ) 12 rfl rfl (As := []) (rest := [.int x5]) rfl (Nat.le_of_ble_eq_true rfl) ⟨Nat.le_of_ble_eq_true rfl, Nat.le_of_ble_eq_true rfl⟩ ⟨Nat.le_of_ble_eq_true rfl, Nat.le_of_ble_eq_true rfl⟩ rfl rfl d_Y_spread_10 ?_
  refine b_icmp_gt X (tgt := 63) d_Y_spread_13 (by decide) (fun _ => ?_) (fun h => absurd c13 h)
  exact b_vret X d_Y_spread_63 hp
theorem sg_Y_spread_4_f4 {K : KX} {G : GG} {w0 : va_W} {Q : State → Prop} (X : Bd K G w0 "FirstTrees$Ways" c_Y_spread 8 none rm_Y_spread) (σ : St) (x1 : Int64) (x3 : Int32) (x4 : Int32) (x5 : Int32) (n29 : Nat) (n49 : Nat) (c13 : ¬ (xi σ 12 0) < x5) (e29 : ((((x3 * 61) + x4) * 61) + x5) = nI n29) (h29 : n29 < 59536) (e49 : x5 = nI n49) (h49 : n49 < 61) (k : Lb K G w0 Q 8 4 [(0, .ref (xa σ 19)), (1, .long x1), (3, .int x3), (4, .int x4), (5, .int (x5 + 1))] [] (WC G (wl σ 21 n49 (lmin 1000000000 ((xl σ 21 n49) + (x1 * (Int32.toInt64 (xi σ 20 n29))))))) 0 0) : Lb K G w0 Q 8 4 [(0, .ref (xa σ 19)), (1, .long x1), (3, .int x3), (4, .int x4), (5, .int x5)] [] (WC G σ) 0 0 := by
  refine b_iload X d_Y_spread_4 4 rfl ?_
  refine b_aload_n X d_Y_spread_6 0 rfl rfl ?_
  refine b_get X fl_Y_32 19 rfl (v := .ref (xa σ 12)) rfl d_Y_spread_7 ?_
  refine b_dV X cf_C_end ci_C_end ml_Y_36 (ct_C_end_ G σ ) 12 rfl rfl (As := []) (rest := [.int x5]) rfl (Nat.le_of_ble_eq_true rfl) ⟨Nat.le_of_ble_eq_true rfl, Nat.le_of_ble_eq_true rfl⟩ ⟨Nat.le_of_ble_eq_true rfl, Nat.le_of_ble_eq_true rfl⟩ rfl rfl d_Y_spread_10 ?_
  refine b_icmp_gt X (tgt := 63) d_Y_spread_13 (by decide) (fun h => absurd h c13) (fun _ => ?_)
  refine b_lload_n X d_Y_spread_16 1 rfl rfl ?_
  refine b_aload_n X d_Y_spread_17 0 rfl rfl ?_
  refine b_get X fl_Y_10 19 rfl (v := .ref (xa σ 20)) rfl d_Y_spread_18 ?_
  refine b_iload_n X d_Y_spread_21 2 rfl rfl ?_
  refine b_iload X d_Y_spread_22 3 rfl ?_
  refine b_iload X d_Y_spread_24 4 rfl ?_
  refine b_dS X cf_Y_at ci_Y_at ml_Y_57 (ct_Y_at_ G σ x3 x4 x5) (As := [.int x3, .int x4, .int x5]) (rest := [.ref (xa σ 20), .long x1]) rfl (Nat.le_of_ble_eq_true rfl) ⟨Nat.le_of_ble_eq_true rfl, Nat.le_of_ble_eq_true rfl⟩ ⟨Nat.le_of_ble_eq_true rfl, Nat.le_of_ble_eq_true rfl⟩ rfl rfl d_Y_spread_26 ?_
  refine b_iald X 20 rfl (by decide) n29 e29 h29 d_Y_spread_29 ?_
  refine b_i2l X (v := (Int32.toInt64 (xi σ 20 n29))) d_Y_spread_30 rfl ?_
  refine b_lmul X d_Y_spread_31 ?_
  refine b_lstore X (lv' := [(0, .ref (xa σ 19)), (1, .long x1), (3, .int x3), (4, .int x4), (5, .int x5), (6, .long (x1 * (Int32.toInt64 (xi σ 20 n29))))]) d_Y_spread_32 (by decide) [1, 2, 3, 4, 5, 0] rfl ?_
  refine b_aload_n X d_Y_spread_34 0 rfl rfl ?_
  refine b_get X fl_Y_16 19 rfl (v := .ref (xa σ 21)) rfl d_Y_spread_35 ?_
  refine b_iload X d_Y_spread_38 4 rfl ?_
  refine b_ldc2 X (v := 1000000000) kl_Y_80 d_Y_spread_40 ?_
  refine b_aload_n X d_Y_spread_43 0 rfl rfl ?_
  refine b_get X fl_Y_16 19 rfl (v := .ref (xa σ 21)) rfl d_Y_spread_44 ?_
  refine b_iload X d_Y_spread_47 4 rfl ?_
  refine b_lald X 21 rfl (by decide) n49 e49 h49 d_Y_spread_49 ?_
  refine b_lload X d_Y_spread_50 5 rfl ?_
  refine b_ladd X d_Y_spread_52 ?_
  refine b_mminL X ml_Y_82 ⟨Nat.le_of_ble_eq_true rfl, Nat.le_of_ble_eq_true rfl, Nat.le_of_ble_eq_true rfl, Nat.le_of_ble_eq_true rfl⟩ d_Y_spread_53 ?_
  refine b_last X 21 rfl (by decide) n49 e49 h49 (uWC_21 G σ n49 (lmin 1000000000 ((xl σ 21 n49) + (x1 * (Int32.toInt64 (xi σ 20 n29)))))) d_Y_spread_56 ?_
  refine b_iinc X (lv' := [(0, .ref (xa σ 19)), (1, .long x1), (3, .int x3), (4, .int x4), (5, .int (x5 + 1)), (6, .long (x1 * (Int32.toInt64 (xi σ 20 n29))))]) d_Y_spread_57 4 rfl (v := (x5 + 1)) rfl (by decide) [1, 2, 3, 4, 0, 5] rfl ?_
  refine b_goto X (tgt := 4) d_Y_spread_60 (by decide) ?_
  refine Lb.pick (lv' := [(0, .ref (xa σ 19)), (1, .long x1), (3, .int x3), (4, .int x4), (5, .int (x5 + 1))]) [0, 1, 2, 3, 4] rfl ?_
  exact k
