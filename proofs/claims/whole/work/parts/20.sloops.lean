/-! segments, by program (wip/gen) -/
theorem ct_S_bringUpToDate_tt (G : GG) (σ : St)  (q14 : Sq) (q18 : Sq) (q22 : Sq) (c4 : (xi σ 5 0) = 0) (t14 : Ct y_S_findNothing c_S_findNothing 6 none rm_S_findNothing G [.ref (xa σ 5)] (WC G (wi σ 5 0 1)) (eqp (none) (WC G (xa σ, q14)))) (t18 : Ct y_S_findLeft c_S_findLeft 3 none rm_S_findLeft G [.ref (xa σ 5)] (WC G (xa σ, q14)) (eqp (none) (WC G (xa σ, q18)))) (t22 : Ct y_S_findFault c_S_findFault 3 none rm_S_findFault G [.ref (xa σ 5)] (WC G (xa σ, q18)) (eqp (none) (WC G (xa σ, q22)))) (c29 : ¬ (xi (xa σ, q22) 5 1) = 0) : Ct y_S_bringUpToDate c_S_bringUpToDate 1 none rm_S_bringUpToDate G [.ref (xa σ 5)] (WC G σ) (eqp none (WC G (xa σ, q22))) := by
  refine Ct.of (by decide +kernel) (Nat.le_of_ble_eq_true rfl) (fun K X => ?_)
  show Lb K G _ _ 1 0 [(0, .ref (xa σ 5))] [] _ 0 0
  refine b_aload_n X d_S_bringUpToDate_0 0 rfl rfl ?_
  refine b_get X fl_S_29 5 rfl (v := .int (xi σ 5 0)) rfl d_S_bringUpToDate_1 ?_
  refine b_if_eq X (tgt := 8) d_S_bringUpToDate_4 (by decide) (fun _ => ?_) (fun h => absurd c4 h)
  refine b_aload_n X d_S_bringUpToDate_8 0 rfl rfl ?_
  refine b_iconst X (v := 1) d_S_bringUpToDate_9 (by decide) ?_
  refine b_put X fl_S_29 pl_S_current 5 rfl rfl rfl (Nat.le_of_ble_eq_true rfl) (uWC_5_current G σ 1) d_S_bringUpToDate_10 ?_
  refine b_aload_n X d_S_bringUpToDate_13 0 rfl rfl ?_
  refine b_dV X cf_S_findNothing ci_S_findNothing ml_S_33 t14 5 rfl rfl (As := []) (rest := []) rfl (Nat.le_of_ble_eq_true rfl) ⟨Nat.le_of_ble_eq_true rfl, Nat.le_of_ble_eq_true rfl⟩ ⟨Nat.le_of_ble_eq_true rfl, Nat.le_of_ble_eq_true rfl⟩ rfl rfl d_S_bringUpToDate_14 ?_
  refine b_aload_n X d_S_bringUpToDate_17 0 rfl rfl ?_
  refine b_dV X cf_S_findLeft ci_S_findLeft ml_S_36 t18 5 rfl rfl (As := []) (rest := []) rfl (Nat.le_of_ble_eq_true rfl) ⟨Nat.le_of_ble_eq_true rfl, Nat.le_of_ble_eq_true rfl⟩ ⟨Nat.le_of_ble_eq_true rfl, Nat.le_of_ble_eq_true rfl⟩ rfl rfl d_S_bringUpToDate_18 ?_
  refine b_aload_n X d_S_bringUpToDate_21 0 rfl rfl ?_
  refine b_dV X cf_S_findFault ci_S_findFault ml_S_39 t22 5 rfl rfl (As := []) (rest := []) rfl (Nat.le_of_ble_eq_true rfl) ⟨Nat.le_of_ble_eq_true rfl, Nat.le_of_ble_eq_true rfl⟩ ⟨Nat.le_of_ble_eq_true rfl, Nat.le_of_ble_eq_true rfl⟩ rfl rfl d_S_bringUpToDate_22 ?_
  refine b_aload_n X d_S_bringUpToDate_25 0 rfl rfl ?_
  refine b_get X fl_S_42 5 rfl (v := .int (xi (xa σ, q22) 5 1)) rfl d_S_bringUpToDate_26 ?_
  refine b_if_ne X (tgt := 44) d_S_bringUpToDate_29 (by decide) (fun _ => ?_) (fun h => absurd h c29)
  exact b_vret X d_S_bringUpToDate_44 ⟨rfl, rfl⟩
theorem ct_S_bringUpToDate_tf (G : GG) (σ : St)  (q14 : Sq) (q18 : Sq) (q22 : Sq) (q33 : Sq) (q37 : Sq) (q41 : Sq) (c4 : (xi σ 5 0) = 0) (t14 : Ct y_S_findNothing c_S_findNothing 6 none rm_S_findNothing G [.ref (xa σ 5)] (WC G (wi σ 5 0 1)) (eqp (none) (WC G (xa σ, q14)))) (t18 : Ct y_S_findLeft c_S_findLeft 3 none rm_S_findLeft G [.ref (xa σ 5)] (WC G (xa σ, q14)) (eqp (none) (WC G (xa σ, q18)))) (t22 : Ct y_S_findFault c_S_findFault 3 none rm_S_findFault G [.ref (xa σ 5)] (WC G (xa σ, q18)) (eqp (none) (WC G (xa σ, q22)))) (c29 : (xi (xa σ, q22) 5 1) = 0) (t33 : Ct y_S_findOrder c_S_findOrder 4 none rm_S_findOrder G [.ref (xa σ 5)] (WC G (xa σ, q22)) (eqp (none) (WC G (xa σ, q33)))) (t37 : Ct y_S_findFirsts c_S_findFirsts 6 none rm_S_findFirsts G [.ref (xa σ 5)] (WC G (xa σ, q33)) (eqp (none) (WC G (xa σ, q37)))) (t41 : Ct y_S_findFollowings c_S_findFollowings 5 none rm_S_findFollowings G [.ref (xa σ 5)] (WC G (xa σ, q37)) (eqp (none) (WC G (xa σ, q41)))) : Ct y_S_bringUpToDate c_S_bringUpToDate 1 none rm_S_bringUpToDate G [.ref (xa σ 5)] (WC G σ) (eqp none (WC G (xa σ, q41))) := by
  refine Ct.of (by decide +kernel) (Nat.le_of_ble_eq_true rfl) (fun K X => ?_)
  show Lb K G _ _ 1 0 [(0, .ref (xa σ 5))] [] _ 0 0
  refine b_aload_n X d_S_bringUpToDate_0 0 rfl rfl ?_
  refine b_get X fl_S_29 5 rfl (v := .int (xi σ 5 0)) rfl d_S_bringUpToDate_1 ?_
  refine b_if_eq X (tgt := 8) d_S_bringUpToDate_4 (by decide) (fun _ => ?_) (fun h => absurd c4 h)
  refine b_aload_n X d_S_bringUpToDate_8 0 rfl rfl ?_
  refine b_iconst X (v := 1) d_S_bringUpToDate_9 (by decide) ?_
  refine b_put X fl_S_29 pl_S_current 5 rfl rfl rfl (Nat.le_of_ble_eq_true rfl) (uWC_5_current G σ 1) d_S_bringUpToDate_10 ?_
  refine b_aload_n X d_S_bringUpToDate_13 0 rfl rfl ?_
  refine b_dV X cf_S_findNothing ci_S_findNothing ml_S_33 t14 5 rfl rfl (As := []) (rest := []) rfl (Nat.le_of_ble_eq_true rfl) ⟨Nat.le_of_ble_eq_true rfl, Nat.le_of_ble_eq_true rfl⟩ ⟨Nat.le_of_ble_eq_true rfl, Nat.le_of_ble_eq_true rfl⟩ rfl rfl d_S_bringUpToDate_14 ?_
  refine b_aload_n X d_S_bringUpToDate_17 0 rfl rfl ?_
  refine b_dV X cf_S_findLeft ci_S_findLeft ml_S_36 t18 5 rfl rfl (As := []) (rest := []) rfl (Nat.le_of_ble_eq_true rfl) ⟨Nat.le_of_ble_eq_true rfl, Nat.le_of_ble_eq_true rfl⟩ ⟨Nat.le_of_ble_eq_true rfl, Nat.le_of_ble_eq_true rfl⟩ rfl rfl d_S_bringUpToDate_18 ?_
  refine b_aload_n X d_S_bringUpToDate_21 0 rfl rfl ?_
  refine b_dV X cf_S_findFault ci_S_findFault ml_S_39 t22 5 rfl rfl (As := []) (rest := []) rfl (Nat.le_of_ble_eq_true rfl) ⟨Nat.le_of_ble_eq_true rfl, Nat.le_of_ble_eq_true rfl⟩ ⟨Nat.le_of_ble_eq_true rfl, Nat.le_of_ble_eq_true rfl⟩ rfl rfl d_S_bringUpToDate_22 ?_
  refine b_aload_n X d_S_bringUpToDate_25 0 rfl rfl ?_
  refine b_get X fl_S_42 5 rfl (v := .int (xi (xa σ, q22) 5 1)) rfl d_S_bringUpToDate_26 ?_
  refine b_if_ne X (tgt := 44) d_S_bringUpToDate_29 (by decide) (fun h => absurd c29 h) (fun _ => ?_)
  refine b_aload_n X d_S_bringUpToDate_32 0 rfl rfl ?_
  refine b_dV X cf_S_findOrder ci_S_findOrder ml_S_46 t33 5 rfl rfl (As := []) (rest := []) rfl (Nat.le_of_ble_eq_true rfl) ⟨Nat.le_of_ble_eq_true rfl, Nat.le_of_ble_eq_true rfl⟩ ⟨Nat.le_of_ble_eq_true rfl, Nat.le_of_ble_eq_true rfl⟩ rfl rfl d_S_bringUpToDate_33 ?_
  refine b_aload_n X d_S_bringUpToDate_36 0 rfl rfl ?_
  refine b_dV X cf_S_findFirsts ci_S_findFirsts ml_S_49 t37 5 rfl rfl (As := []) (rest := []) rfl (Nat.le_of_ble_eq_true rfl) ⟨Nat.le_of_ble_eq_true rfl, Nat.le_of_ble_eq_true rfl⟩ ⟨Nat.le_of_ble_eq_true rfl, Nat.le_of_ble_eq_true rfl⟩ rfl rfl d_S_bringUpToDate_37 ?_
  refine b_aload_n X d_S_bringUpToDate_40 0 rfl rfl ?_
  refine b_dV X cf_S_findFollowings ci_S_findFollowings ml_S_52 t41 5 rfl rfl (As := []) (rest := []) rfl (Nat.le_of_ble_eq_true rfl) ⟨Nat.le_of_ble_eq_true rfl, Nat.le_of_ble_eq_true rfl⟩ ⟨Nat.le_of_ble_eq_true rfl, Nat.le_of_ble_eq_true rfl⟩ rfl rfl d_S_bringUpToDate_41 ?_
  exact b_vret X d_S_bringUpToDate_44 ⟨rfl, rfl⟩
theorem ct_S_bringUpToDate_f (G : GG) (σ : St)   (c4 : ¬ (xi σ 5 0) = 0) : Ct y_S_bringUpToDate c_S_bringUpToDate 1 none rm_S_bringUpToDate G [.ref (xa σ 5)] (WC G σ) (eqp none (WC G σ)) := by
  refine Ct.of (by decide +kernel) (Nat.le_of_ble_eq_true rfl) (fun K X => ?_)
  show Lb K G _ _ 1 0 [(0, .ref (xa σ 5))] [] _ 0 0
  refine b_aload_n X d_S_bringUpToDate_0 0 rfl rfl ?_
  refine b_get X fl_S_29 5 rfl (v := .int (xi σ 5 0)) rfl d_S_bringUpToDate_1 ?_
  refine b_if_eq X (tgt := 8) d_S_bringUpToDate_4 (by decide) (fun h => absurd h c4) (fun _ => ?_)
  exact b_vret X d_S_bringUpToDate_7 ⟨rfl, rfl⟩
theorem sg_S_letIn_0_5 {K : KX} {G : GG} {w0 : va_W} {Q : State → Prop} (X : Bd K G w0 "FirstTrees$Study" c_S_letIn 6 (some .int) rm_S_letIn) (σ : St) (x1 : Int32) (x2 : Int32)   (k : Lb K G w0 Q 6 5 [(0, .ref (xa σ 5)), (1, .int x1), (2, .int x2), (3, .int 0), (4, .int 0)] [] (WC G σ) 0 0) : Lb K G w0 Q 6 0 [(0, .ref (xa σ 5)), (1, .int x1), (2, .int x2)] [] (WC G σ) 0 0 := by
  refine b_iconst X (v := 0) d_S_letIn_0 (by decide) ?_
  refine b_istore_n X (lv' := [(0, .ref (xa σ 5)), (1, .int x1), (2, .int x2), (3, .int 0)]) d_S_letIn_1 rfl (by decide) [1, 2, 3, 0] rfl ?_
  refine b_iconst X (v := 0) d_S_letIn_2 (by decide) ?_
  refine b_istore X (lv' := [(0, .ref (xa σ 5)), (1, .int x1), (2, .int x2), (3, .int 0), (4, .int 0)]) d_S_letIn_3 (by decide) [1, 2, 3, 4, 0] rfl ?_
  exact k
theorem sg_S_letIn_5_tr {K : KX} {G : GG} {w0 : va_W} {post : PostT} (X : Bd K G w0 "FirstTrees$Study" c_S_letIn 6 (some .int) rm_S_letIn) (σ : St) (x1 : Int32) (x2 : Int32) (x3 : Int32) (x4 : Int32) (n12 : Nat) (e12 : x1 = nI n12) (h12 : n12 < 16) (c15 : (altC σ n12) ≤ x4) (hp : post (some (.int x3)) (WC G σ)) : Lb K G w0 (Qe K G w0 post rm_S_letIn) 6 5 [(0, .ref (xa σ 5)), (1, .int x1), (2, .int x2), (3, .int x3), (4, .int x4)] [] (WC G σ) 0 0 := by
  refine b_iload X d_S_letIn_5 4 rfl ?_
  refine b_aload_n X d_S_letIn_7 0 rfl rfl ?_
  refine b_get X fl_S_25 5 rfl (v := .ref (xa σ 1)) rfl d_S_letIn_8 ?_
  refine b_iload_n X d_S_letIn_11 1 rfl rfl ?_
  refine b_dV X cf_G_alternatives ci_G_alternatives ml_S_65 (ct_G_alternatives G σ x1 n12 e12 h12) 1 rfl rfl (As := [.int x1]) (rest := [.int x4]) rfl (Nat.le_of_ble_eq_true rfl) ⟨Nat.le_of_ble_eq_true rfl, Nat.le_of_ble_eq_true rfl⟩ ⟨Nat.le_of_ble_eq_true rfl, Nat.le_of_ble_eq_true rfl⟩ rfl rfl d_S_letIn_12 ?_
  refine b_icmp_ge X (tgt := 74) d_S_letIn_15 (by decide) (fun _ => ?_) (fun h => absurd c15 h)
  refine b_iload_n X d_S_letIn_74 3 rfl rfl ?_
  exact b_iret X d_S_letIn_75 hp
theorem sg_S_letIn_5_ft5 {K : KX} {G : GG} {w0 : va_W} {Q : State → Prop} (X : Bd K G w0 "FirstTrees$Study" c_S_letIn 6 (some .int) rm_S_letIn) (σ : St) (x1 : Int32) (x2 : Int32) (x3 : Int32) (x4 : Int32) (n12 : Nat) (r29 : Int64) (e12 : x1 = nI n12) (h12 : n12 < 16) (c15 : ¬ (altC σ n12) ≤ x4) (t29 : Ct y_S_rowFirst c_S_rowFirst 6 (some .long) rm_S_rowFirst G [.ref (xa σ 5), .int ((x1 * 8) + x4)] (WC G σ) (eqp (some (.long r29)) (WC G σ))) (c36 : ¬ (hasB r29 x2) = 0) (k : Lb K G w0 Q 6 5 [(0, .ref (xa σ 5)), (1, .int x1), (2, .int x2), (3, .int (x3 ||| (1 <<< (x4 &&& 31)))), (4, .int (x4 + 1))] [] (WC G σ) 0 0) : Lb K G w0 Q 6 5 [(0, .ref (xa σ 5)), (1, .int x1), (2, .int x2), (3, .int x3), (4, .int x4)] [] (WC G σ) 0 0 := by
  refine b_iload X d_S_letIn_5 4 rfl ?_
  refine b_aload_n X d_S_letIn_7 0 rfl rfl ?_
  refine b_get X fl_S_25 5 rfl (v := .ref (xa σ 1)) rfl d_S_letIn_8 ?_
  refine b_iload_n X d_S_letIn_11 1 rfl rfl ?_
  refine b_dV X cf_G_alternatives ci_G_alternatives ml_S_65 (ct_G_alternatives G σ x1 n12 e12 h12) 1 rfl rfl (As := [.int x1]) (rest := [.int x4]) rfl (Nat.le_of_ble_eq_true rfl) ⟨Nat.le_of_ble_eq_true rfl, Nat.le_of_ble_eq_true rfl⟩ ⟨Nat.le_of_ble_eq_true rfl, Nat.le_of_ble_eq_true rfl⟩ rfl rfl d_S_letIn_12 ?_
  refine b_icmp_ge X (tgt := 74) d_S_letIn_15 (by decide) (fun h => absurd h c15) (fun _ => ?_)
  refine b_iload_n X d_S_letIn_18 1 rfl rfl ?_
  refine b_iload X d_S_letIn_19 4 rfl ?_
  refine b_dS X cf_G_row ci_G_row ml_S_71 (ct_G_row_ G σ x1 x4) (As := [.int x1, .int x4]) (rest := []) rfl (Nat.le_of_ble_eq_true rfl) ⟨Nat.le_of_ble_eq_true rfl, Nat.le_of_ble_eq_true rfl⟩ ⟨Nat.le_of_ble_eq_true rfl, Nat.le_of_ble_eq_true rfl⟩ rfl rfl d_S_letIn_21 ?_
  refine b_istore X (lv' := [(0, .ref (xa σ 5)), (1, .int x1), (2, .int x2), (3, .int x3), (4, .int x4), (5, .int ((x1 * 8) + x4))]) d_S_letIn_24 (by decide) [1, 2, 3, 4, 5, 0] rfl ?_
  refine b_aload_n X d_S_letIn_26 0 rfl rfl ?_
  refine b_iload X d_S_letIn_27 5 rfl ?_
  refine b_dV X cf_S_rowFirst ci_S_rowFirst ml_S_75 t29 5 rfl rfl (As := [.int ((x1 * 8) + x4)]) (rest := []) rfl (Nat.le_of_ble_eq_true rfl) ⟨Nat.le_of_ble_eq_true rfl, Nat.le_of_ble_eq_true rfl⟩ ⟨Nat.le_of_ble_eq_true rfl, Nat.le_of_ble_eq_true rfl⟩ rfl rfl d_S_letIn_29 ?_
  refine b_iload_n X d_S_letIn_32 2 rfl rfl ?_
  refine b_dSN X cf_F_has ci_F_has mn_S_61 (ct_F_has G σ r29 x2) (As := [.long r29, .int x2]) (rest := []) rfl (Nat.le_of_ble_eq_true rfl) ⟨Nat.le_of_ble_eq_true rfl, Nat.le_of_ble_eq_true rfl⟩ ⟨Nat.le_of_ble_eq_true rfl, Nat.le_of_ble_eq_true rfl⟩ rfl rfl d_S_letIn_33 ?_
  refine b_if_ne X (tgt := 61) d_S_letIn_36 (by decide) (fun _ => ?_) (fun h => absurd h c36)
  refine b_iload_n X d_S_letIn_61 3 rfl rfl ?_
  refine b_iconst X (v := 1) d_S_letIn_62 (by decide) ?_
  refine b_iload X d_S_letIn_63 4 rfl ?_
  refine b_ishl X d_S_letIn_65 ?_
  refine b_ior X d_S_letIn_66 ?_
  refine b_istore_n X (lv' := [(0, .ref (xa σ 5)), (1, .int x1), (2, .int x2), (3, .int (x3 ||| (1 <<< (x4 &&& 31)))), (4, .int x4), (5, .int ((x1 * 8) + x4))]) d_S_letIn_67 rfl (by decide) [1, 2, 3, 0, 4, 5] rfl ?_
  refine b_iinc X (lv' := [(0, .ref (xa σ 5)), (1, .int x1), (2, .int x2), (3, .int (x3 ||| (1 <<< (x4 &&& 31)))), (4, .int (x4 + 1)), (5, .int ((x1 * 8) + x4))]) d_S_letIn_68 4 rfl (v := (x4 + 1)) rfl (by decide) [1, 2, 3, 4, 0, 5] rfl ?_
  refine b_goto X (tgt := 5) d_S_letIn_71 (by decide) ?_
  refine Lb.pick (lv' := [(0, .ref (xa σ 5)), (1, .int x1), (2, .int x2), (3, .int (x3 ||| (1 <<< (x4 &&& 31)))), (4, .int (x4 + 1))]) [0, 1, 2, 3, 4] rfl ?_
  exact k
theorem sg_S_letIn_5_fft5 {K : KX} {G : GG} {w0 : va_W} {Q : State → Prop} (X : Bd K G w0 "FirstTrees$Study" c_S_letIn 6 (some .int) rm_S_letIn) (σ : St) (x1 : Int32) (x2 : Int32) (x3 : Int32) (x4 : Int32) (n12 : Nat) (r29 : Int64) (r42 : Int32) (e12 : x1 = nI n12) (h12 : n12 < 16) (c15 : ¬ (altC σ n12) ≤ x4) (t29 : Ct y_S_rowFirst c_S_rowFirst 6 (some .long) rm_S_rowFirst G [.ref (xa σ 5), .int ((x1 * 8) + x4)] (WC G σ) (eqp (some (.long r29)) (WC G σ))) (c36 : (hasB r29 x2) = 0) (t42 : Ct y_S_rowIsNothing c_S_rowIsNothing 3 (some .boolean) rm_S_rowIsNothing G [.ref (xa σ 5), .int ((x1 * 8) + x4)] (WC G σ) (eqp (some (.int r42)) (WC G σ))) (c45 : r42 = 0) (k : Lb K G w0 Q 6 5 [(0, .ref (xa σ 5)), (1, .int x1), (2, .int x2), (3, .int x3), (4, .int (x4 + 1))] [] (WC G σ) 0 0) : Lb K G w0 Q 6 5 [(0, .ref (xa σ 5)), (1, .int x1), (2, .int x2), (3, .int x3), (4, .int x4)] [] (WC G σ) 0 0 := by
  refine b_iload X d_S_letIn_5 4 rfl ?_
  refine b_aload_n X d_S_letIn_7 0 rfl rfl ?_
  refine b_get X fl_S_25 5 rfl (v := .ref (xa σ 1)) rfl d_S_letIn_8 ?_
  refine b_iload_n X d_S_letIn_11 1 rfl rfl ?_
  refine b_dV X cf_G_alternatives ci_G_alternatives ml_S_65 (ct_G_alternatives G σ x1 n12 e12 h12) 1 rfl rfl (As := [.int x1]) (rest := [.int x4]) rfl (Nat.le_of_ble_eq_true rfl) ⟨Nat.le_of_ble_eq_true rfl, Nat.le_of_ble_eq_true rfl⟩ ⟨Nat.le_of_ble_eq_true rfl, Nat.le_of_ble_eq_true rfl⟩ rfl rfl d_S_letIn_12 ?_
  refine b_icmp_ge X (tgt := 74) d_S_letIn_15 (by decide) (fun h => absurd h c15) (fun _ => ?_)
  refine b_iload_n X d_S_letIn_18 1 rfl rfl ?_
  refine b_iload X d_S_letIn_19 4 rfl ?_
  refine b_dS X cf_G_row ci_G_row ml_S_71 (ct_G_row_ G σ x1 x4) (As := [.int x1, .int x4]) (rest := []) rfl (Nat.le_of_ble_eq_true rfl) ⟨Nat.le_of_ble_eq_true rfl, Nat.le_of_ble_eq_true rfl⟩ ⟨Nat.le_of_ble_eq_true rfl, Nat.le_of_ble_eq_true rfl⟩ rfl rfl d_S_letIn_21 ?_
  refine b_istore X (lv' := [(0, .ref (xa σ 5)), (1, .int x1), (2, .int x2), (3, .int x3), (4, .int x4), (5, .int ((x1 * 8) + x4))]) d_S_letIn_24 (by decide) [1, 2, 3, 4, 5, 0] rfl ?_
  refine b_aload_n X d_S_letIn_26 0 rfl rfl ?_
  refine b_iload X d_S_letIn_27 5 rfl ?_
  refine b_dV X cf_S_rowFirst ci_S_rowFirst ml_S_75 t29 5 rfl rfl (As := [.int ((x1 * 8) + x4)]) (rest := []) rfl (Nat.le_of_ble_eq_true rfl) ⟨Nat.le_of_ble_eq_true rfl, Nat.le_of_ble_eq_true rfl⟩ ⟨Nat.le_of_ble_eq_true rfl, Nat.le_of_ble_eq_true rfl⟩ rfl rfl d_S_letIn_29 ?_
  refine b_iload_n X d_S_letIn_32 2 rfl rfl ?_
  refine b_dSN X cf_F_has ci_F_has mn_S_61 (ct_F_has G σ r29 x2) (As := [.long r29, .int x2]) (rest := []) rfl (Nat.le_of_ble_eq_true rfl) ⟨Nat.le_of_ble_eq_true rfl, Nat.le_of_ble_eq_true rfl⟩ ⟨Nat.le_of_ble_eq_true rfl, Nat.le_of_ble_eq_true rfl⟩ rfl rfl d_S_letIn_33 ?_
  refine b_if_ne X (tgt := 61) d_S_letIn_36 (by decide) (fun h => absurd c36 h) (fun _ => ?_)
  refine b_aload_n X d_S_letIn_39 0 rfl rfl ?_
  refine b_iload X d_S_letIn_40 5 rfl ?_
  refine b_dV X cf_S_rowIsNothing ci_S_rowIsNothing ml_S_79 t42 5 rfl rfl (As := [.int ((x1 * 8) + x4)]) (rest := []) rfl (Nat.le_of_ble_eq_true rfl) ⟨Nat.le_of_ble_eq_true rfl, Nat.le_of_ble_eq_true rfl⟩ ⟨Nat.le_of_ble_eq_true rfl, Nat.le_of_ble_eq_true rfl⟩ rfl rfl d_S_letIn_42 ?_
  refine b_if_eq X (tgt := 68) d_S_letIn_45 (by decide) (fun _ => ?_) (fun h => absurd c45 h)
  refine b_iinc X (lv' := [(0, .ref (xa σ 5)), (1, .int x1), (2, .int x2), (3, .int x3), (4, .int (x4 + 1)), (5, .int ((x1 * 8) + x4))]) d_S_letIn_68 4 rfl (v := (x4 + 1)) rfl (by decide) [1, 2, 3, 4, 0, 5] rfl ?_
  refine b_goto X (tgt := 5) d_S_letIn_71 (by decide) ?_
  refine Lb.pick (lv' := [(0, .ref (xa σ 5)), (1, .int x1), (2, .int x2), (3, .int x3), (4, .int (x4 + 1))]) [0, 1, 2, 3, 4] rfl ?_
  exact k
theorem sg_S_letIn_5_ffft5 {K : KX} {G : GG} {w0 : va_W} {Q : State → Prop} (X : Bd K G w0 "FirstTrees$Study" c_S_letIn 6 (some .int) rm_S_letIn) (σ : St) (x1 : Int32) (x2 : Int32) (x3 : Int32) (x4 : Int32) (n12 : Nat) (r29 : Int64) (r42 : Int32) (e12 : x1 = nI n12) (h12 : n12 < 16) (c15 : ¬ (altC σ n12) ≤ x4) (t29 : Ct y_S_rowFirst c_S_rowFirst 6 (some .long) rm_S_rowFirst G [.ref (xa σ 5), .int ((x1 * 8) + x4)] (WC G σ) (eqp (some (.long r29)) (WC G σ))) (c36 : (hasB r29 x2) = 0) (t42 : Ct y_S_rowIsNothing c_S_rowIsNothing 3 (some .boolean) rm_S_rowIsNothing G [.ref (xa σ 5), .int ((x1 * 8) + x4)] (WC G σ) (eqp (some (.int r42)) (WC G σ))) (c45 : ¬ r42 = 0) (c58 : (hasB (xl σ 9 n12) x2) = 0) (k : Lb K G w0 Q 6 5 [(0, .ref (xa σ 5)), (1, .int x1), (2, .int x2), (3, .int x3), (4, .int (x4 + 1))] [] (WC G σ) 0 0) : Lb K G w0 Q 6 5 [(0, .ref (xa σ 5)), (1, .int x1), (2, .int x2), (3, .int x3), (4, .int x4)] [] (WC G σ) 0 0 := by
  refine b_iload X d_S_letIn_5 4 rfl ?_
  refine b_aload_n X d_S_letIn_7 0 rfl rfl ?_
  refine b_get X fl_S_25 5 rfl (v := .ref (xa σ 1)) rfl d_S_letIn_8 ?_
  refine b_iload_n X d_S_letIn_11 1 rfl rfl ?_
  refine b_dV X cf_G_alternatives ci_G_alternatives ml_S_65 (ct_G_alternatives G σ x1 n12 e12 h12) 1 rfl rfl (As := [.int x1]) (rest := [.int x4]) rfl (Nat.le_of_ble_eq_true rfl) ⟨Nat.le_of_ble_eq_true rfl, Nat.le_of_ble_eq_true rfl⟩ ⟨Nat.le_of_ble_eq_true rfl, Nat.le_of_ble_eq_true rfl⟩ rfl rfl d_S_letIn_12 ?_
  refine b_icmp_ge X (tgt := 74) d_S_letIn_15 (by decide) (fun h => absurd h c15) (fun _ => ?_)
  refine b_iload_n X d_S_letIn_18 1 rfl rfl ?_
  refine b_iload X d_S_letIn_19 4 rfl ?_
  refine b_dS X cf_G_row ci_G_row ml_S_71 (ct_G_row_ G σ x1 x4) (As := [.int x1, .int x4]) (rest := []) rfl (Nat.le_of_ble_eq_true rfl) ⟨Nat.le_of_ble_eq_true rfl, Nat.le_of_ble_eq_true rfl⟩ ⟨Nat.le_of_ble_eq_true rfl, Nat.le_of_ble_eq_true rfl⟩ rfl rfl d_S_letIn_21 ?_
  refine b_istore X (lv' := [(0, .ref (xa σ 5)), (1, .int x1), (2, .int x2), (3, .int x3), (4, .int x4), (5, .int ((x1 * 8) + x4))]) d_S_letIn_24 (by decide) [1, 2, 3, 4, 5, 0] rfl ?_
  refine b_aload_n X d_S_letIn_26 0 rfl rfl ?_
  refine b_iload X d_S_letIn_27 5 rfl ?_
  refine b_dV X cf_S_rowFirst ci_S_rowFirst ml_S_75 t29 5 rfl rfl (As := [.int ((x1 * 8) + x4)]) (rest := []) rfl (Nat.le_of_ble_eq_true rfl) ⟨Nat.le_of_ble_eq_true rfl, Nat.le_of_ble_eq_true rfl⟩ ⟨Nat.le_of_ble_eq_true rfl, Nat.le_of_ble_eq_true rfl⟩ rfl rfl d_S_letIn_29 ?_
  refine b_iload_n X d_S_letIn_32 2 rfl rfl ?_
  refine b_dSN X cf_F_has ci_F_has mn_S_61 (ct_F_has G σ r29 x2) (As := [.long r29, .int x2]) (rest := []) rfl (Nat.le_of_ble_eq_true rfl) ⟨Nat.le_of_ble_eq_true rfl, Nat.le_of_ble_eq_true rfl⟩ ⟨Nat.le_of_ble_eq_true rfl, Nat.le_of_ble_eq_true rfl⟩ rfl rfl d_S_letIn_33 ?_
  refine b_if_ne X (tgt := 61) d_S_letIn_36 (by decide) (fun h => absurd c36 h) (fun _ => ?_)
  refine b_aload_n X d_S_letIn_39 0 rfl rfl ?_
  refine b_iload X d_S_letIn_40 5 rfl ?_
  refine b_dV X cf_S_rowIsNothing ci_S_rowIsNothing ml_S_79 t42 5 rfl rfl (As := [.int ((x1 * 8) + x4)]) (rest := []) rfl (Nat.le_of_ble_eq_true rfl) ⟨Nat.le_of_ble_eq_true rfl, Nat.le_of_ble_eq_true rfl⟩ ⟨Nat.le_of_ble_eq_true rfl, Nat.le_of_ble_eq_true rfl⟩ rfl rfl d_S_letIn_42 ?_
  refine b_if_eq X (tgt := 68) d_S_letIn_45 (by decide) (fun h => absurd h c45) (fun _ => ?_)
  refine b_aload_n X d_S_letIn_48 0 rfl rfl ?_
  refine b_get X fl_S_22 5 rfl (v := .ref (xa σ 9)) rfl d_S_letIn_49 ?_
  refine b_iload_n X d_S_letIn_52 1 rfl rfl ?_
  refine b_lald X 9 rfl (by decide) n12 e12 h12 d_S_letIn_53 ?_
  refine b_iload_n X d_S_letIn_54 2 rfl rfl ?_
  refine b_dSN X cf_F_has ci_F_has mn_S_61 (ct_F_has G σ (xl σ 9 n12) x2) (As := [.long (xl σ 9 n12), .int x2]) (rest := []) rfl (Nat.le_of_ble_eq_true rfl) ⟨Nat.le_of_ble_eq_true rfl, Nat.le_of_ble_eq_true rfl⟩ ⟨Nat.le_of_ble_eq_true rfl, Nat.le_of_ble_eq_true rfl⟩ rfl rfl d_S_letIn_55 ?_
  refine b_if_eq X (tgt := 68) d_S_letIn_58 (by decide) (fun _ => ?_) (fun h => absurd c58 h)
  refine b_iinc X (lv' := [(0, .ref (xa σ 5)), (1, .int x1), (2, .int x2), (3, .int x3), (4, .int (x4 + 1)), (5, .int ((x1 * 8) + x4))]) d_S_letIn_68 4 rfl (v := (x4 + 1)) rfl (by decide) [1, 2, 3, 4, 0, 5] rfl ?_
  refine b_goto X (tgt := 5) d_S_letIn_71 (by decide) ?_
  refine Lb.pick (lv' := [(0, .ref (xa σ 5)), (1, .int x1), (2, .int x2), (3, .int x3), (4, .int (x4 + 1))]) [0, 1, 2, 3, 4] rfl ?_
  exact k
theorem sg_S_letIn_5_ffff5 {K : KX} {G : GG} {w0 : va_W} {Q : State → Prop} (X : Bd K G w0 "FirstTrees$Study" c_S_letIn 6 (some .int) rm_S_letIn) (σ : St) (x1 : Int32) (x2 : Int32) (x3 : Int32) (x4 : Int32) (n12 : Nat) (r29 : Int64) (r42 : Int32) (e12 : x1 = nI n12) (h12 : n12 < 16) (c15 : ¬ (altC σ n12) ≤ x4) (t29 : Ct y_S_rowFirst c_S_rowFirst 6 (some .long) rm_S_rowFirst G [.ref (xa σ 5), .int ((x1 * 8) + x4)] (WC G σ) (eqp (some (.long r29)) (WC G σ))) (c36 : (hasB r29 x2) = 0) (t42 : Ct y_S_rowIsNothing c_S_rowIsNothing 3 (some .boolean) rm_S_rowIsNothing G [.ref (xa σ 5), .int ((x1 * 8) + x4)] (WC G σ) (eqp (some (.int r42)) (WC G σ))) (c45 : ¬ r42 = 0) (c58 : ¬ (hasB (xl σ 9 n12) x2) = 0) (k : Lb K G w0 Q 6 5 [(0, .ref (xa σ 5)), (1, .int x1), (2, .int x2), (3, .int (x3 ||| (1 <<< (x4 &&& 31)))), (4, .int (x4 + 1))] [] (WC G σ) 0 0) : Lb K G w0 Q 6 5 [(0, .ref (xa σ 5)), (1, .int x1), (2, .int x2), (3, .int x3), (4, .int x4)] [] (WC G σ) 0 0 := by
  refine b_iload X d_S_letIn_5 4 rfl ?_
  refine b_aload_n X d_S_letIn_7 0 rfl rfl ?_
  refine b_get X fl_S_25 5 rfl (v := .ref (xa σ 1)) rfl d_S_letIn_8 ?_
  refine b_iload_n X d_S_letIn_11 1 rfl rfl ?_
  refine b_dV X cf_G_alternatives ci_G_alternatives ml_S_65 (ct_G_alternatives G σ x1 n12 e12 h12) 1 rfl rfl (As := [.int x1]) (rest := [.int x4]) rfl (Nat.le_of_ble_eq_true rfl) ⟨Nat.le_of_ble_eq_true rfl, Nat.le_of_ble_eq_true rfl⟩ ⟨Nat.le_of_ble_eq_true rfl, Nat.le_of_ble_eq_true rfl⟩ rfl rfl d_S_letIn_12 ?_
  refine b_icmp_ge X (tgt := 74) d_S_letIn_15 (by decide) (fun h => absurd h c15) (fun _ => ?_)
  refine b_iload_n X d_S_letIn_18 1 rfl rfl ?_
  refine b_iload X d_S_letIn_19 4 rfl ?_
  refine b_dS X cf_G_row ci_G_row ml_S_71 (ct_G_row_ G σ x1 x4) (As := [.int x1, .int x4]) (rest := []) rfl (Nat.le_of_ble_eq_true rfl) ⟨Nat.le_of_ble_eq_true rfl, Nat.le_of_ble_eq_true rfl⟩ ⟨Nat.le_of_ble_eq_true rfl, Nat.le_of_ble_eq_true rfl⟩ rfl rfl d_S_letIn_21 ?_
  refine b_istore X (lv' := [(0, .ref (xa σ 5)), (1, .int x1), (2, .int x2), (3, .int x3), (4, .int x4), (5, .int ((x1 * 8) + x4))]) d_S_letIn_24 (by decide) [1, 2, 3, 4, 5, 0] rfl ?_
  refine b_aload_n X d_S_letIn_26 0 rfl rfl ?_
  refine b_iload X d_S_letIn_27 5 rfl ?_
  refine b_dV X cf_S_rowFirst ci_S_rowFirst ml_S_75 t29 5 rfl rfl (As := [.int ((x1 * 8) + x4)]) (rest := []) rfl (Nat.le_of_ble_eq_true rfl) ⟨Nat.le_of_ble_eq_true rfl, Nat.le_of_ble_eq_true rfl⟩ ⟨Nat.le_of_ble_eq_true rfl, Nat.le_of_ble_eq_true rfl⟩ rfl rfl d_S_letIn_29 ?_
  refine b_iload_n X d_S_letIn_32 2 rfl rfl ?_
  refine b_dSN X cf_F_has ci_F_has mn_S_61 (ct_F_has G σ r29 x2) (As := [.long r29, .int x2]) (rest := []) rfl (Nat.le_of_ble_eq_true rfl) ⟨Nat.le_of_ble_eq_true rfl, Nat.le_of_ble_eq_true rfl⟩ ⟨Nat.le_of_ble_eq_true rfl, Nat.le_of_ble_eq_true rfl⟩ rfl rfl d_S_letIn_33 ?_
  refine b_if_ne X (tgt := 61) d_S_letIn_36 (by decide) (fun h => absurd c36 h) (fun _ => ?_)
  refine b_aload_n X d_S_letIn_39 0 rfl rfl ?_
  refine b_iload X d_S_letIn_40 5 rfl ?_
  refine b_dV X cf_S_rowIsNothing ci_S_rowIsNothing ml_S_79 t42 5 rfl rfl (As := [.int ((x1 * 8) + x4)]) (rest := []) rfl (Nat.le_of_ble_eq_true rfl) ⟨Nat.le_of_ble_eq_true rfl, Nat.le_of_ble_eq_true rfl⟩ ⟨Nat.le_of_ble_eq_true rfl, Nat.le_of_ble_eq_true rfl⟩ rfl rfl d_S_letIn_42 ?_
  refine b_if_eq X (tgt := 68) d_S_letIn_45 (by decide) (fun h => absurd h c45) (fun _ => ?_)
  refine b_aload_n X d_S_letIn_48 0 rfl rfl ?_
  refine b_get X fl_S_22 5 rfl (v := .ref (xa σ 9)) rfl d_S_letIn_49 ?_
  refine b_iload_n X d_S_letIn_52 1 rfl rfl ?_
  refine b_lald X 9 rfl (by decide) n12 e12 h12 d_S_letIn_53 ?_
  refine b_iload_n X d_S_letIn_54 2 rfl rfl ?_
  refine b_dSN X cf_F_has ci_F_has mn_S_61 (ct_F_has G σ (xl σ 9 n12) x2) (As := [.long (xl σ 9 n12), .int x2]) (rest := []) rfl (Nat.le_of_ble_eq_true rfl) ⟨Nat.le_of_ble_eq_true rfl, Nat.le_of_ble_eq_true rfl⟩ ⟨Nat.le_of_ble_eq_true rfl, Nat.le_of_ble_eq_true rfl⟩ rfl rfl d_S_letIn_55 ?_
  refine b_if_eq X (tgt := 68) d_S_letIn_58 (by decide) (fun h => absurd h c58) (fun _ => ?_)
  refine b_iload_n X d_S_letIn_61 3 rfl rfl ?_
  refine b_iconst X (v := 1) d_S_letIn_62 (by decide) ?_
  refine b_iload X d_S_letIn_63 4 rfl ?_
  refine b_ishl X d_S_letIn_65 ?_
  refine b_ior X d_S_letIn_66 ?_
  refine b_istore_n X (lv' := [(0, .ref (xa σ 5)), (1, .int x1), (2, .int x2), (3, .int (x3 ||| (1 <<< (x4 &&& 31)))), (4, .int x4), (5, .int ((x1 * 8) + x4))]) d_S_letIn_67 rfl (by decide) [1, 2, 3, 0, 4, 5] rfl ?_
  refine b_iinc X (lv' := [(0, .ref (xa σ 5)), (1, .int x1), (2, .int x2), (3, .int (x3 ||| (1 <<< (x4 &&& 31)))), (4, .int (x4 + 1)), (5, .int ((x1 * 8) + x4))]) d_S_letIn_68 4 rfl (v := (x4 + 1)) rfl (by decide) [1, 2, 3, 4, 0, 5] rfl ?_
  refine b_goto X (tgt := 5) d_S_letIn_71 (by decide) ?_
  refine Lb.pick (lv' := [(0, .ref (xa σ 5)), (1, .int x1), (2, .int x2), (3, .int (x3 ||| (1 <<< (x4 &&& 31)))), (4, .int (x4 + 1))]) [0, 1, 2, 3, 4] rfl ?_
  exact k
theorem sg_S_findNothing_0_9 {K : KX} {G : GG} {w0 : va_W} {Q : State → Prop} (X : Bd K G w0 "FirstTrees$Study" c_S_findNothing 6 none rm_S_findNothing) (σ : St)    (k : Lb K G w0 Q 6 9 [(0, .ref (xa σ 5)), (1, .int 1), (2, .int 0)] [] (WC G (wi σ 5 3 0)) 0 0) : Lb K G w0 Q 6 0 [(0, .ref (xa σ 5))] [] (WC G σ) 0 0 := by
  refine b_aload_n X d_S_findNothing_0 0 rfl rfl ?_
  refine b_iconst X (v := 0) d_S_findNothing_1 (by decide) ?_
  refine b_put X fl_S_58 pl_S_nothing 5 rfl rfl rfl (Nat.le_of_ble_eq_true rfl) (uWC_5_nothing G σ 0) d_S_findNothing_2 ?_
  refine b_iconst X (v := 1) d_S_findNothing_5 (by decide) ?_
  refine b_istore_n X (lv' := [(0, .ref (xa σ 5)), (1, .int 1)]) d_S_findNothing_6 rfl (by decide) [1, 0] rfl ?_
  refine b_iconst X (v := 0) d_S_findNothing_7 (by decide) ?_
  refine b_istore_n X (lv' := [(0, .ref (xa σ 5)), (1, .int 1), (2, .int 0)]) d_S_findNothing_8 rfl (by decide) [1, 2, 0] rfl ?_
  exact k
theorem sg_S_findNothing_9_tr {K : KX} {G : GG} {w0 : va_W} {post : PostT} (X : Bd K G w0 "FirstTrees$Study" c_S_findNothing 6 none rm_S_findNothing) (σ : St) (x1 : Int32) (x2 : Int32)  (c12 : 16 < x2) (hp : post none (WC G σ)) : Lb K G w0 (Qe K G w0 post rm_S_findNothing) 6 9 [(0, .ref (xa σ 5)), (1, .int x1), (2, .int x2)] [] (WC G σ) 0 0 := by
  refine b_iload_n X d_S_findNothing_9 2 rfl rfl ?_
  refine b_bipush X (v := 16) d_S_findNothing_10 (by decide) ?_
  refine b_icmp_gt X (tgt := 115) d_S_findNothing_12 (by decide) (fun _ => ?_) (fun h => absurd c12 h)
  exact b_vret X d_S_findNothing_115 hp
theorem sg_S_findNothing_9_ftr {K : KX} {G : GG} {w0 : va_W} {post : PostT} (X : Bd K G w0 "FirstTrees$Study" c_S_findNothing 6 none rm_S_findNothing) (σ : St) (x1 : Int32) (x2 : Int32)  (c12 : ¬ 16 < x2) (c16 : x1 = 0) (hp : post none (WC G σ)) : Lb K G w0 (Qe K G w0 post rm_S_findNothing) 6 9 [(0, .ref (xa σ 5)), (1, .int x1), (2, .int x2)] [] (WC G σ) 0 0 := by
  refine b_iload_n X d_S_findNothing_9 2 rfl rfl ?_
  refine b_bipush X (v := 16) d_S_findNothing_10 (by decide) ?_
  refine b_icmp_gt X (tgt := 115) d_S_findNothing_12 (by decide) (fun h => absurd h c12) (fun _ => ?_)
  refine b_iload_n X d_S_findNothing_15 1 rfl rfl ?_
  refine b_if_eq X (tgt := 115) d_S_findNothing_16 (by decide) (fun _ => ?_) (fun h => absurd c16 h)
  exact b_vret X d_S_findNothing_115 hp
theorem sg_S_findNothing_9_ff27 {K : KX} {G : GG} {w0 : va_W} {Q : State → Prop} (X : Bd K G w0 "FirstTrees$Study" c_S_findNothing 6 none rm_S_findNothing) (σ : St) (x1 : Int32) (x2 : Int32)  (c12 : ¬ 16 < x2) (c16 : ¬ x1 = 0) (k : Lb K G w0 Q 6 27 [(0, .ref (xa σ 5)), (1, .int x1), (2, .int x2), (3, .int (xi σ 5 3)), (4, .int 0)] [] (WC G σ) 0 0) : Lb K G w0 Q 6 9 [(0, .ref (xa σ 5)), (1, .int x1), (2, .int x2)] [] (WC G σ) 0 0 := by
  refine b_iload_n X d_S_findNothing_9 2 rfl rfl ?_
  refine b_bipush X (v := 16) d_S_findNothing_10 (by decide) ?_
  refine b_icmp_gt X (tgt := 115) d_S_findNothing_12 (by decide) (fun h => absurd h c12) (fun _ => ?_)
  refine b_iload_n X d_S_findNothing_15 1 rfl rfl ?_
  refine b_if_eq X (tgt := 115) d_S_findNothing_16 (by decide) (fun h => absurd h c16) (fun _ => ?_)
  refine b_aload_n X d_S_findNothing_19 0 rfl rfl ?_
  refine b_get X fl_S_58 5 rfl (v := .int (xi σ 5 3)) rfl d_S_findNothing_20 ?_
  refine b_istore_n X (lv' := [(0, .ref (xa σ 5)), (1, .int x1), (2, .int x2), (3, .int (xi σ 5 3))]) d_S_findNothing_23 rfl (by decide) [1, 2, 3, 0] rfl ?_
  refine b_iconst X (v := 0) d_S_findNothing_24 (by decide) ?_
  refine b_istore X (lv' := [(0, .ref (xa σ 5)), (1, .int x1), (2, .int x2), (3, .int (xi σ 5 3)), (4, .int 0)]) d_S_findNothing_25 (by decide) [1, 2, 3, 4, 0] rfl ?_
  exact k
theorem sg_S_findNothing_27_tt9 {K : KX} {G : GG} {w0 : va_W} {Q : State → Prop} (X : Bd K G w0 "FirstTrees$Study" c_S_findNothing 6 none rm_S_findNothing) (σ : St) (x1 : Int32) (x2 : Int32) (x3 : Int32) (x4 : Int32)  (c36 : (xi σ 1 0) ≤ x4) (c100 : (xi σ 5 3) = x3) (k : Lb K G w0 Q 6 9 [(0, .ref (xa σ 5)), (1, .int 0), (2, .int (x2 + 1))] [] (WC G σ) 0 0) : Lb K G w0 Q 6 27 [(0, .ref (xa σ 5)), (1, .int x1), (2, .int x2), (3, .int x3), (4, .int x4)] [] (WC G σ) 0 0 := by
  refine b_iload X d_S_findNothing_27 4 rfl ?_
  refine b_aload_n X d_S_findNothing_29 0 rfl rfl ?_
  refine b_get X fl_S_25 5 rfl (v := .ref (xa σ 1)) rfl d_S_findNothing_30 ?_
  refine b_dV X cf_G_rules ci_G_rules ml_S_83 (ct_G_rules_ G σ ) 1 rfl rfl (As := []) (rest := [.int x4]) rfl (Nat.le_of_ble_eq_true rfl) ⟨Nat.le_of_ble_eq_true rfl, Nat.le_of_ble_eq_true rfl⟩ ⟨Nat.le_of_ble_eq_true rfl, Nat.le_of_ble_eq_true rfl⟩ rfl rfl d_S_findNothing_33 ?_
  refine b_icmp_ge X (tgt := 95) d_S_findNothing_36 (by decide) (fun _ => ?_) (fun h => absurd c36 h)
  refine b_aload_n X d_S_findNothing_95 0 rfl rfl ?_
  refine b_get X fl_S_58 5 rfl (v := .int (xi σ 5 3)) rfl d_S_findNothing_96 ?_
  refine b_iload_n X d_S_findNothing_99 3 rfl rfl ?_
  refine b_icmp_eq X (tgt := 107) d_S_findNothing_100 (by decide) (fun _ => ?_) (fun h => absurd c100 h)
  refine b_iconst X (v := 0) d_S_findNothing_107 (by decide) ?_
  refine b_istore_n X (lv' := [(0, .ref (xa σ 5)), (1, .int 0), (2, .int x2), (3, .int x3), (4, .int x4)]) d_S_findNothing_108 rfl (by decide) [1, 0, 2, 3, 4] rfl ?_
  refine b_iinc X (lv' := [(0, .ref (xa σ 5)), (1, .int 0), (2, .int (x2 + 1)), (3, .int x3), (4, .int x4)]) d_S_findNothing_109 2 rfl (v := (x2 + 1)) rfl (by decide) [1, 2, 0, 3, 4] rfl ?_
  refine b_goto X (tgt := 9) d_S_findNothing_112 (by decide) ?_
  refine Lb.pick (lv' := [(0, .ref (xa σ 5)), (1, .int 0), (2, .int (x2 + 1))]) [0, 1, 2] rfl ?_
  exact k
theorem sg_S_findNothing_27_tf9 {K : KX} {G : GG} {w0 : va_W} {Q : State → Prop} (X : Bd K G w0 "FirstTrees$Study" c_S_findNothing 6 none rm_S_findNothing) (σ : St) (x1 : Int32) (x2 : Int32) (x3 : Int32) (x4 : Int32)  (c36 : (xi σ 1 0) ≤ x4) (c100 : ¬ (xi σ 5 3) = x3) (k : Lb K G w0 Q 6 9 [(0, .ref (xa σ 5)), (1, .int 1), (2, .int (x2 + 1))] [] (WC G σ) 0 0) : Lb K G w0 Q 6 27 [(0, .ref (xa σ 5)), (1, .int x1), (2, .int x2), (3, .int x3), (4, .int x4)] [] (WC G σ) 0 0 := by
  refine b_iload X d_S_findNothing_27 4 rfl ?_
  refine b_aload_n X d_S_findNothing_29 0 rfl rfl ?_
  refine b_get X fl_S_25 5 rfl (v := .ref (xa σ 1)) rfl d_S_findNothing_30 ?_
  refine b_dV X cf_G_rules ci_G_rules ml_S_83 (ct_G_rules_ G σ ) 1 rfl rfl (As := []) (rest := [.int x4]) rfl (Nat.le_of_ble_eq_true rfl) ⟨Nat.le_of_ble_eq_true rfl, Nat.le_of_ble_eq_true rfl⟩ ⟨Nat.le_of_ble_eq_true rfl, Nat.le_of_ble_eq_true rfl⟩ rfl rfl d_S_findNothing_33 ?_
  refine b_icmp_ge X (tgt := 95) d_S_findNothing_36 (by decide) (fun _ => ?_) (fun h => absurd c36 h)
  refine b_aload_n X d_S_findNothing_95 0 rfl rfl ?_
  refine b_get X fl_S_58 5 rfl (v := .int (xi σ 5 3)) rfl d_S_findNothing_96 ?_
  refine b_iload_n X d_S_findNothing_99 3 rfl rfl ?_
  refine b_icmp_eq X (tgt := 107) d_S_findNothing_100 (by decide) (fun h => absurd h c100) (fun _ => ?_)
  refine b_iconst X (v := 1) d_S_findNothing_103 (by decide) ?_
  refine b_goto X (tgt := 108) d_S_findNothing_104 (by decide) ?_
  refine b_istore_n X (lv' := [(0, .ref (xa σ 5)), (1, .int 1), (2, .int x2), (3, .int x3), (4, .int x4)]) d_S_findNothing_108 rfl (by decide) [1, 0, 2, 3, 4] rfl ?_
  refine b_iinc X (lv' := [(0, .ref (xa σ 5)), (1, .int 1), (2, .int (x2 + 1)), (3, .int x3), (4, .int x4)]) d_S_findNothing_109 2 rfl (v := (x2 + 1)) rfl (by decide) [1, 2, 0, 3, 4] rfl ?_
  refine b_goto X (tgt := 9) d_S_findNothing_112 (by decide) ?_
  refine Lb.pick (lv' := [(0, .ref (xa σ 5)), (1, .int 1), (2, .int (x2 + 1))]) [0, 1, 2] rfl ?_
  exact k
theorem sg_S_findNothing_27_f42 {K : KX} {G : GG} {w0 : va_W} {Q : State → Prop} (X : Bd K G w0 "FirstTrees$Study" c_S_findNothing 6 none rm_S_findNothing) (σ : St) (x1 : Int32) (x2 : Int32) (x3 : Int32) (x4 : Int32)  (c36 : ¬ (xi σ 1 0) ≤ x4) (k : Lb K G w0 Q 6 42 [(0, .ref (xa σ 5)), (1, .int x1), (2, .int x2), (3, .int x3), (4, .int x4), (5, .int 0)] [] (WC G σ) 0 0) : Lb K G w0 Q 6 27 [(0, .ref (xa σ 5)), (1, .int x1), (2, .int x2), (3, .int x3), (4, .int x4)] [] (WC G σ) 0 0 := by
  refine b_iload X d_S_findNothing_27 4 rfl ?_
  refine b_aload_n X d_S_findNothing_29 0 rfl rfl ?_
  refine b_get X fl_S_25 5 rfl (v := .ref (xa σ 1)) rfl d_S_findNothing_30 ?_
  refine b_dV X cf_G_rules ci_G_rules ml_S_83 (ct_G_rules_ G σ ) 1 rfl rfl (As := []) (rest := [.int x4]) rfl (Nat.le_of_ble_eq_true rfl) ⟨Nat.le_of_ble_eq_true rfl, Nat.le_of_ble_eq_true rfl⟩ ⟨Nat.le_of_ble_eq_true rfl, Nat.le_of_ble_eq_true rfl⟩ rfl rfl d_S_findNothing_33 ?_
  refine b_icmp_ge X (tgt := 95) d_S_findNothing_36 (by decide) (fun h => absurd h c36) (fun _ => ?_)
  refine b_iconst X (v := 0) d_S_findNothing_39 (by decide) ?_
  refine b_istore X (lv' := [(0, .ref (xa σ 5)), (1, .int x1), (2, .int x2), (3, .int x3), (4, .int x4), (5, .int 0)]) d_S_findNothing_40 (by decide) [1, 2, 3, 4, 5, 0] rfl ?_
  exact k
theorem sg_S_findNothing_42_t27 {K : KX} {G : GG} {w0 : va_W} {Q : State → Prop} (X : Bd K G w0 "FirstTrees$Study" c_S_findNothing 6 none rm_S_findNothing) (σ : St) (x1 : Int32) (x2 : Int32) (x3 : Int32) (x4 : Int32) (x5 : Int32) (n50 : Nat) (e50 : x4 = nI n50) (h50 : n50 < 16) (c53 : (altC σ n50) ≤ x5) (k : Lb K G w0 Q 6 27 [(0, .ref (xa σ 5)), (1, .int x1), (2, .int x2), (3, .int x3), (4, .int (x4 + 1))] [] (WC G σ) 0 0) : Lb K G w0 Q 6 42 [(0, .ref (xa σ 5)), (1, .int x1), (2, .int x2), (3, .int x3), (4, .int x4), (5, .int x5)] [] (WC G σ) 0 0 := by
  refine b_iload X d_S_findNothing_42 5 rfl ?_
  refine b_aload_n X d_S_findNothing_44 0 rfl rfl ?_
  refine b_get X fl_S_25 5 rfl (v := .ref (xa σ 1)) rfl d_S_findNothing_45 ?_
  refine b_iload X d_S_findNothing_48 4 rfl ?_
  refine b_dV X cf_G_alternatives ci_G_alternatives ml_S_65 (ct_G_alternatives G σ x4 n50 e50 h50) 1 rfl rfl (As := [.int x4]) (rest := [.int x5]) rfl (Nat.le_of_ble_eq_true rfl) ⟨Nat.le_of_ble_eq_true rfl, Nat.le_of_ble_eq_true rfl⟩ ⟨Nat.le_of_ble_eq_true rfl, Nat.le_of_ble_eq_true rfl⟩ rfl rfl d_S_findNothing_50 ?_
  refine b_icmp_ge X (tgt := 89) d_S_findNothing_53 (by decide) (fun _ => ?_) (fun h => absurd c53 h)
  refine b_iinc X (lv' := [(0, .ref (xa σ 5)), (1, .int x1), (2, .int x2), (3, .int x3), (4, .int (x4 + 1)), (5, .int x5)]) d_S_findNothing_89 4 rfl (v := (x4 + 1)) rfl (by decide) [1, 2, 3, 4, 0, 5] rfl ?_
  refine b_goto X (tgt := 27) d_S_findNothing_92 (by decide) ?_
  refine Lb.pick (lv' := [(0, .ref (xa σ 5)), (1, .int x1), (2, .int x2), (3, .int x3), (4, .int (x4 + 1))]) [0, 1, 2, 3, 4] rfl ?_
  exact k
theorem sg_S_findNothing_42_ft42 {K : KX} {G : GG} {w0 : va_W} {Q : State → Prop} (X : Bd K G w0 "FirstTrees$Study" c_S_findNothing 6 none rm_S_findNothing) (σ : St) (x1 : Int32) (x2 : Int32) (x3 : Int32) (x4 : Int32) (x5 : Int32) (n50 : Nat) (r64 : Int32) (e50 : x4 = nI n50) (h50 : n50 < 16) (c53 : ¬ (altC σ n50) ≤ x5) (t64 : Ct y_S_rowIsNothing c_S_rowIsNothing 3 (some .boolean) rm_S_rowIsNothing G [.ref (xa σ 5), .int ((x4 * 8) + x5)] (WC G σ) (eqp (some (.int r64)) (WC G σ))) (c67 : r64 = 0) (k : Lb K G w0 Q 6 42 [(0, .ref (xa σ 5)), (1, .int x1), (2, .int x2), (3, .int x3), (4, .int x4), (5, .int (x5 + 1))] [] (WC G σ) 0 0) : Lb K G w0 Q 6 42 [(0, .ref (xa σ 5)), (1, .int x1), (2, .int x2), (3, .int x3), (4, .int x4), (5, .int x5)] [] (WC G σ) 0 0 := by
  refine b_iload X d_S_findNothing_42 5 rfl ?_
  refine b_aload_n X d_S_findNothing_44 0 rfl rfl ?_
  refine b_get X fl_S_25 5 rfl (v := .ref (xa σ 1)) rfl d_S_findNothing_45 ?_
  refine b_iload X d_S_findNothing_48 4 rfl ?_
  refine b_dV X cf_G_alternatives ci_G_alternatives ml_S_65 (ct_G_alternatives G σ x4 n50 e50 h50) 1 rfl rfl (As := [.int x4]) (rest := [.int x5]) rfl (Nat.le_of_ble_eq_true rfl) ⟨Nat.le_of_ble_eq_true rfl, Nat.le_of_ble_eq_true rfl⟩ ⟨Nat.le_of_ble_eq_true rfl, Nat.le_of_ble_eq_true rfl⟩ rfl rfl d_S_findNothing_50 ?_
  refine b_icmp_ge X (tgt := 89) d_S_findNothing_53 (by decide) (fun h => absurd h c53) (fun _ => ?_)
  refine b_aload_n X d_S_findNothing_56 0 rfl rfl ?_
  refine b_iload X d_S_findNothing_57 4 rfl ?_
  refine b_iload X d_S_findNothing_59 5 rfl ?_
  refine b_dS X cf_G_row ci_G_row ml_S_71 (ct_G_row_ G σ x4 x5) (As := [.int x4, .int x5]) (rest := [.ref (xa σ 5)]) rfl (Nat.le_of_ble_eq_true rfl) ⟨Nat.le_of_ble_eq_true rfl, Nat.le_of_ble_eq_true rfl⟩ ⟨Nat.le_of_ble_eq_true rfl, Nat.le_of_ble_eq_true rfl⟩ rfl rfl d_S_findNothing_61 ?_
  refine b_dV X cf_S_rowIsNothing ci_S_rowIsNothing ml_S_79 t64 5 rfl rfl (As := [.int ((x4 * 8) + x5)]) (rest := []) rfl (Nat.le_of_ble_eq_true rfl) ⟨Nat.le_of_ble_eq_true rfl, Nat.le_of_ble_eq_true rfl⟩ ⟨Nat.le_of_ble_eq_true rfl, Nat.le_of_ble_eq_true rfl⟩ rfl rfl d_S_findNothing_64 ?_
  refine b_if_eq X (tgt := 83) d_S_findNothing_67 (by decide) (fun _ => ?_) (fun h => absurd c67 h)
  refine b_iinc X (lv' := [(0, .ref (xa σ 5)), (1, .int x1), (2, .int x2), (3, .int x3), (4, .int x4), (5, .int (x5 + 1))]) d_S_findNothing_83 5 rfl (v := (x5 + 1)) rfl (by decide) [1, 2, 3, 4, 5, 0] rfl ?_
  refine b_goto X (tgt := 42) d_S_findNothing_86 (by decide) ?_
  exact k
theorem sg_S_findNothing_42_ff42 {K : KX} {G : GG} {w0 : va_W} {Q : State → Prop} (X : Bd K G w0 "FirstTrees$Study" c_S_findNothing 6 none rm_S_findNothing) (σ : St) (x1 : Int32) (x2 : Int32) (x3 : Int32) (x4 : Int32) (x5 : Int32) (n50 : Nat) (r64 : Int32) (e50 : x4 = nI n50) (h50 : n50 < 16) (c53 : ¬ (altC σ n50) ≤ x5) (t64 : Ct y_S_rowIsNothing c_S_rowIsNothing 3 (some .boolean) rm_S_rowIsNothing G [.ref (xa σ 5), .int ((x4 * 8) + x5)] (WC G σ) (eqp (some (.int r64)) (WC G σ))) (c67 : ¬ r64 = 0) (k : Lb K G w0 Q 6 42 [(0, .ref (xa σ 5)), (1, .int x1), (2, .int x2), (3, .int x3), (4, .int x4), (5, .int (x5 + 1))] [] (WC G (wi σ 5 3 ((xi σ 5 3) ||| (1 <<< (x4 &&& 31))))) 0 0) : Lb K G w0 Q 6 42 [(0, .ref (xa σ 5)), (1, .int x1), (2, .int x2), (3, .int x3), (4, .int x4), (5, .int x5)] [] (WC G σ) 0 0 := by
  refine b_iload X d_S_findNothing_42 5 rfl ?_
  refine b_aload_n X d_S_findNothing_44 0 rfl rfl ?_
  refine b_get X fl_S_25 5 rfl (v := .ref (xa σ 1)) rfl d_S_findNothing_45 ?_
  refine b_iload X d_S_findNothing_48 4 rfl ?_
  refine b_dV X cf_G_alternatives ci_G_alternatives ml_S_65 (ct_G_alternatives G σ x4 n50 e50 h50) 1 rfl rfl (As := [.int x4]) (rest := [.int x5]) rfl (Nat.le_of_ble_eq_true rfl) ⟨Nat.le_of_ble_eq_true rfl, Nat.le_of_ble_eq_true rfl⟩ ⟨Nat.le_of_ble_eq_true rfl, Nat.le_of_ble_eq_true rfl⟩ rfl rfl d_S_findNothing_50 ?_
  refine b_icmp_ge X (tgt := 89) d_S_findNothing_53 (by decide) (fun h => absurd h c53) (fun _ => ?_)
  refine b_aload_n X d_S_findNothing_56 0 rfl rfl ?_
  refine b_iload X d_S_findNothing_57 4 rfl ?_
  refine b_iload X d_S_findNothing_59 5 rfl ?_
  refine b_dS X cf_G_row ci_G_row ml_S_71 (ct_G_row_ G σ x4 x5) (As := [.int x4, .int x5]) (rest := [.ref (xa σ 5)]) rfl (Nat.le_of_ble_eq_true rfl) ⟨Nat.le_of_ble_eq_true rfl, Nat.le_of_ble_eq_true rfl⟩ ⟨Nat.le_of_ble_eq_true rfl, Nat.le_of_ble_eq_true rfl⟩ rfl rfl d_S_findNothing_61 ?_
  refine b_dV X cf_S_rowIsNothing ci_S_rowIsNothing ml_S_79 t64 5 rfl rfl (As := [.int ((x4 * 8) + x5)]) (rest := []) rfl (Nat.le_of_ble_eq_true rfl) ⟨Nat.le_of_ble_eq_true rfl, Nat.le_of_ble_eq_true rfl⟩ ⟨Nat.le_of_ble_eq_true rfl, Nat.le_of_ble_eq_true rfl⟩ rfl rfl d_S_findNothing_64 ?_
  refine b_if_eq X (tgt := 83) d_S_findNothing_67 (by decide) (fun h => absurd h c67) (fun _ => ?_)
  refine b_aload_n X d_S_findNothing_70 0 rfl rfl ?_
  refine b_dup X d_S_findNothing_71 rfl ?_
  refine b_get X fl_S_58 5 rfl (v := .int (xi σ 5 3)) rfl d_S_findNothing_72 ?_
  refine b_iconst X (v := 1) d_S_findNothing_75 (by decide) ?_
  refine b_iload X d_S_findNothing_76 4 rfl ?_
  refine b_ishl X d_S_findNothing_78 ?_
  refine b_ior X d_S_findNothing_79 ?_
  refine b_put X fl_S_58 pl_S_nothing 5 rfl rfl rfl (Nat.le_of_ble_eq_true rfl) (uWC_5_nothing G σ ((xi σ 5 3) ||| (1 <<< (x4 &&& 31)))) d_S_findNothing_80 ?_
  refine b_iinc X (lv' := [(0, .ref (xa σ 5)), (1, .int x1), (2, .int x2), (3, .int x3), (4, .int x4), (5, .int (x5 + 1))]) d_S_findNothing_83 5 rfl (v := (x5 + 1)) rfl (by decide) [1, 2, 3, 4, 5, 0] rfl ?_
  refine b_goto X (tgt := 42) d_S_findNothing_86 (by decide) ?_
  exact k
theorem sg_S_rowIsNothing_0_2 {K : KX} {G : GG} {w0 : va_W} {Q : State → Prop} (X : Bd K G w0 "FirstTrees$Study" c_S_rowIsNothing 3 (some .boolean) rm_S_rowIsNothing) (σ : St) (x1 : Int32)   (k : Lb K G w0 Q 3 2 [(0, .ref (xa σ 5)), (1, .int x1), (2, .int 0)] [] (WC G σ) 0 0) : Lb K G w0 Q 3 0 [(0, .ref (xa σ 5)), (1, .int x1)] [] (WC G σ) 0 0 := by
  refine b_iconst X (v := 0) d_S_rowIsNothing_0 (by decide) ?_
  refine b_istore_n X (lv' := [(0, .ref (xa σ 5)), (1, .int x1), (2, .int 0)]) d_S_rowIsNothing_1 rfl (by decide) [1, 2, 0] rfl ?_
  exact k
theorem sg_S_rowIsNothing_2_tr {K : KX} {G : GG} {w0 : va_W} {post : PostT} (X : Bd K G w0 "FirstTrees$Study" c_S_rowIsNothing 3 (some .boolean) rm_S_rowIsNothing) (σ : St) (x1 : Int32) (x2 : Int32) (n8 : Nat) (e8 : x1 = nI n8) (h8 : n8 < 128) (c11 : (xi σ 3 n8) ≤ x2) (hp : post (some (.int 1)) (WC G σ)) : Lb K G w0 (Qe K G w0 post rm_S_rowIsNothing) 3 2 [(0, .ref (xa σ 5)), (1, .int x1), (2, .int x2)] [] (WC G σ) 0 0 := by
  refine b_iload_n X d_S_rowIsNothing_2 2 rfl rfl ?_
  refine b_aload_n X d_S_rowIsNothing_3 0 rfl rfl ?_
  refine b_get X fl_S_25 5 rfl (v := .ref (xa σ 1)) rfl d_S_rowIsNothing_4 ?_
  refine b_iload_n X d_S_rowIsNothing_7 1 rfl rfl ?_
  refine b_dV X cf_G_length ci_G_length ml_S_87 (ct_G_length_ G σ x1 n8 e8 h8) 1 rfl rfl (As := [.int x1]) (rest := [.int x2]) rfl (Nat.le_of_ble_eq_true rfl) ⟨Nat.le_of_ble_eq_true rfl, Nat.le_of_ble_eq_true rfl⟩ ⟨Nat.le_of_ble_eq_true rfl, Nat.le_of_ble_eq_true rfl⟩ rfl rfl d_S_rowIsNothing_8 ?_
  refine b_icmp_ge X (tgt := 38) d_S_rowIsNothing_11 (by decide) (fun _ => ?_) (fun h => absurd c11 h)
  refine b_iconst X (v := 1) d_S_rowIsNothing_38 (by decide) ?_
  exact b_zret X rfl d_S_rowIsNothing_39 hp
theorem sg_S_rowIsNothing_2_ft2 {K : KX} {G : GG} {w0 : va_W} {Q : State → Prop} (X : Bd K G w0 "FirstTrees$Study" c_S_rowIsNothing 3 (some .boolean) rm_S_rowIsNothing) (σ : St) (x1 : Int32) (x2 : Int32) (n8 : Nat) (n21 : Nat) (r24 : Int32) (e8 : x1 = nI n8) (h8 : n8 < 128) (c11 : ¬ (xi σ 3 n8) ≤ x2) (e21 : ((x1 * 8) + x2) = nI n21) (h21 : n21 < 1024) (t24 : Ct y_S_symbolIsNothing c_S_symbolIsNothing 2 (some .boolean) rm_S_symbolIsNothing G [.ref (xa σ 5), .int (xi σ 4 n21)] (WC G σ) (eqp (some (.int r24)) (WC G σ))) (c27 : ¬ r24 = 0) (k : Lb K G w0 Q 3 2 [(0, .ref (xa σ 5)), (1, .int x1), (2, .int (x2 + 1))] [] (WC G σ) 0 0) : Lb K G w0 Q 3 2 [(0, .ref (xa σ 5)), (1, .int x1), (2, .int x2)] [] (WC G σ) 0 0 := by
  refine b_iload_n X d_S_rowIsNothing_2 2 rfl rfl ?_
  refine b_aload_n X d_S_rowIsNothing_3 0 rfl rfl ?_
  refine b_get X fl_S_25 5 rfl (v := .ref (xa σ 1)) rfl d_S_rowIsNothing_4 ?_
  refine b_iload_n X d_S_rowIsNothing_7 1 rfl rfl ?_
  refine b_dV X cf_G_length ci_G_length ml_S_87 (ct_G_length_ G σ x1 n8 e8 h8) 1 rfl rfl (As := [.int x1]) (rest := [.int x2]) rfl (Nat.le_of_ble_eq_true rfl) ⟨Nat.le_of_ble_eq_true rfl, Nat.le_of_ble_eq_true rfl⟩ ⟨Nat.le_of_ble_eq_true rfl, Nat.le_of_ble_eq_true rfl⟩ rfl rfl d_S_rowIsNothing_8 ?_
  refine b_icmp_ge X (tgt := 38) d_S_rowIsNothing_11 (by decide) (fun h => absurd h c11) (fun _ => ?_)
  refine b_aload_n X d_S_rowIsNothing_14 0 rfl rfl ?_
  refine b_aload_n X d_S_rowIsNothing_15 0 rfl rfl ?_
  refine b_get X fl_S_25 5 rfl (v := .ref (xa σ 1)) rfl d_S_rowIsNothing_16 ?_
  refine b_iload_n X d_S_rowIsNothing_19 1 rfl rfl ?_
  refine b_iload_n X d_S_rowIsNothing_20 2 rfl rfl ?_
  refine b_dV X cf_G_symbolAt ci_G_symbolAt ml_S_90 (ct_G_symbolAt_ G σ x1 x2 n21 e21 h21) 1 rfl rfl (As := [.int x1, .int x2]) (rest := [.ref (xa σ 5)]) rfl (Nat.le_of_ble_eq_true rfl) ⟨Nat.le_of_ble_eq_true rfl, Nat.le_of_ble_eq_true rfl⟩ ⟨Nat.le_of_ble_eq_true rfl, Nat.le_of_ble_eq_true rfl⟩ rfl rfl d_S_rowIsNothing_21 ?_
  refine b_dV X cf_S_symbolIsNothing ci_S_symbolIsNothing ml_S_93 t24 5 rfl rfl (As := [.int (xi σ 4 n21)]) (rest := []) rfl (Nat.le_of_ble_eq_true rfl) ⟨Nat.le_of_ble_eq_true rfl, Nat.le_of_ble_eq_true rfl⟩ ⟨Nat.le_of_ble_eq_true rfl, Nat.le_of_ble_eq_true rfl⟩ rfl rfl d_S_rowIsNothing_24 ?_
  refine b_if_ne X (tgt := 32) d_S_rowIsNothing_27 (by decide) (fun _ => ?_) (fun h => absurd h c27)
  refine b_iinc X (lv' := [(0, .ref (xa σ 5)), (1, .int x1), (2, .int (x2 + 1))]) d_S_rowIsNothing_32 2 rfl (v := (x2 + 1)) rfl (by decide) [1, 2, 0] rfl ?_
  refine b_goto X (tgt := 2) d_S_rowIsNothing_35 (by decide) ?_
  exact k
theorem sg_S_rowIsNothing_2_ffr {K : KX} {G : GG} {w0 : va_W} {post : PostT} (X : Bd K G w0 "FirstTrees$Study" c_S_rowIsNothing 3 (some .boolean) rm_S_rowIsNothing) (σ : St) (x1 : Int32) (x2 : Int32) (n8 : Nat) (n21 : Nat) (r24 : Int32) (e8 : x1 = nI n8) (h8 : n8 < 128) (c11 : ¬ (xi σ 3 n8) ≤ x2) (e21 : ((x1 * 8) + x2) = nI n21) (h21 : n21 < 1024) (t24 : Ct y_S_symbolIsNothing c_S_symbolIsNothing 2 (some .boolean) rm_S_symbolIsNothing G [.ref (xa σ 5), .int (xi σ 4 n21)] (WC G σ) (eqp (some (.int r24)) (WC G σ))) (c27 : r24 = 0) (hp : post (some (.int 0)) (WC G σ)) : Lb K G w0 (Qe K G w0 post rm_S_rowIsNothing) 3 2 [(0, .ref (xa σ 5)), (1, .int x1), (2, .int x2)] [] (WC G σ) 0 0 := by
  refine b_iload_n X d_S_rowIsNothing_2 2 rfl rfl ?_
  refine b_aload_n X d_S_rowIsNothing_3 0 rfl rfl ?_
  refine b_get X fl_S_25 5 rfl (v := .ref (xa σ 1)) rfl d_S_rowIsNothing_4 ?_
  refine b_iload_n X d_S_rowIsNothing_7 1 rfl rfl ?_
  refine b_dV X cf_G_length ci_G_length ml_S_87 (ct_G_length_ G σ x1 n8 e8 h8) 1 rfl rfl (As := [.int x1]) (rest := [.int x2]) rfl (Nat.le_of_ble_eq_true rfl) ⟨Nat.le_of_ble_eq_true rfl, Nat.le_of_ble_eq_true rfl⟩ ⟨Nat.le_of_ble_eq_true rfl, Nat.le_of_ble_eq_true rfl⟩ rfl rfl d_S_rowIsNothing_8 ?_
  refine b_icmp_ge X (tgt := 38) d_S_rowIsNothing_11 (by decide) (fun h => absurd h c11) (fun _ => ?_)
  refine b_aload_n X d_S_rowIsNothing_14 0 rfl rfl ?_
  refine b_aload_n X d_S_rowIsNothing_15 0 rfl rfl ?_
  refine b_get X fl_S_25 5 rfl (v := .ref (xa σ 1)) rfl d_S_rowIsNothing_16 ?_
  refine b_iload_n X d_S_rowIsNothing_19 1 rfl rfl ?_
  refine b_iload_n X d_S_rowIsNothing_20 2 rfl rfl ?_
  refine b_dV X cf_G_symbolAt ci_G_symbolAt ml_S_90 (ct_G_symbolAt_ G σ x1 x2 n21 e21 h21) 1 rfl rfl (As := [.int x1, .int x2]) (rest := [.ref (xa σ 5)]) rfl (Nat.le_of_ble_eq_true rfl) ⟨Nat.le_of_ble_eq_true rfl, Nat.le_of_ble_eq_true rfl⟩ ⟨Nat.le_of_ble_eq_true rfl, Nat.le_of_ble_eq_true rfl⟩ rfl rfl d_S_rowIsNothing_21 ?_
  refine b_dV X cf_S_symbolIsNothing ci_S_symbolIsNothing ml_S_93 t24 5 rfl rfl (As := [.int (xi σ 4 n21)]) (rest := []) rfl (Nat.le_of_ble_eq_true rfl) ⟨Nat.le_of_ble_eq_true rfl, Nat.le_of_ble_eq_true rfl⟩ ⟨Nat.le_of_ble_eq_true rfl, Nat.le_of_ble_eq_true rfl⟩ rfl rfl d_S_rowIsNothing_24 ?_
  refine b_if_ne X (tgt := 32) d_S_rowIsNothing_27 (by decide) (fun h => absurd c27 h) (fun _ => ?_)
  refine b_iconst X (v := 0) d_S_rowIsNothing_30 (by decide) ?_
  exact b_zret X rfl d_S_rowIsNothing_31 hp
theorem sg_S_findLeft_0_2 {K : KX} {G : GG} {w0 : va_W} {Q : State → Prop} (X : Bd K G w0 "FirstTrees$Study" c_S_findLeft 3 none rm_S_findLeft) (σ : St)    (k : Lb K G w0 Q 3 2 [(0, .ref (xa σ 5)), (1, .int 0)] [] (WC G σ) 0 0) : Lb K G w0 Q 3 0 [(0, .ref (xa σ 5))] [] (WC G σ) 0 0 := by
  refine b_iconst X (v := 0) d_S_findLeft_0 (by decide) ?_
  refine b_istore_n X (lv' := [(0, .ref (xa σ 5)), (1, .int 0)]) d_S_findLeft_1 rfl (by decide) [1, 0] rfl ?_
  exact k
theorem sg_S_findLeft_2_t66 {K : KX} {G : GG} {w0 : va_W} {Q : State → Prop} (X : Bd K G w0 "FirstTrees$Study" c_S_findLeft 3 none rm_S_findLeft) (σ : St) (x1 : Int32)  (c10 : (xi σ 1 0) ≤ x1) (k : Lb K G w0 Q 3 66 [(0, .ref (xa σ 5)), (1, .int 0)] [] (WC G σ) 0 0) : Lb K G w0 Q 3 2 [(0, .ref (xa σ 5)), (1, .int x1)] [] (WC G σ) 0 0 := by
  refine b_iload_n X d_S_findLeft_2 1 rfl rfl ?_
  refine b_aload_n X d_S_findLeft_3 0 rfl rfl ?_
  refine b_get X fl_S_25 5 rfl (v := .ref (xa σ 1)) rfl d_S_findLeft_4 ?_
  refine b_dV X cf_G_rules ci_G_rules ml_S_83 (ct_G_rules_ G σ ) 1 rfl rfl (As := []) (rest := [.int x1]) rfl (Nat.le_of_ble_eq_true rfl) ⟨Nat.le_of_ble_eq_true rfl, Nat.le_of_ble_eq_true rfl⟩ ⟨Nat.le_of_ble_eq_true rfl, Nat.le_of_ble_eq_true rfl⟩ rfl rfl d_S_findLeft_7 ?_
  refine b_icmp_ge X (tgt := 64) d_S_findLeft_10 (by decide) (fun _ => ?_) (fun h => absurd c10 h)
  refine b_iconst X (v := 0) d_S_findLeft_64 (by decide) ?_
  refine b_istore_n X (lv' := [(0, .ref (xa σ 5)), (1, .int 0)]) d_S_findLeft_65 rfl (by decide) [1, 0] rfl ?_
  exact k
theorem sg_S_findLeft_2_f22 {K : KX} {G : GG} {w0 : va_W} {Q : State → Prop} (X : Bd K G w0 "FirstTrees$Study" c_S_findLeft 3 none rm_S_findLeft) (σ : St) (x1 : Int32) (n19 : Nat) (c10 : ¬ (xi σ 1 0) ≤ x1) (e19 : x1 = nI n19) (h19 : n19 < 16) (k : Lb K G w0 Q 3 22 [(0, .ref (xa σ 5)), (1, .int x1), (2, .int 0)] [] (WC G (wi σ 6 n19 0)) 0 0) : Lb K G w0 Q 3 2 [(0, .ref (xa σ 5)), (1, .int x1)] [] (WC G σ) 0 0 := by
  refine b_iload_n X d_S_findLeft_2 1 rfl rfl ?_
  refine b_aload_n X d_S_findLeft_3 0 rfl rfl ?_
  refine b_get X fl_S_25 5 rfl (v := .ref (xa σ 1)) rfl d_S_findLeft_4 ?_
  refine b_dV X cf_G_rules ci_G_rules ml_S_83 (ct_G_rules_ G σ ) 1 rfl rfl (As := []) (rest := [.int x1]) rfl (Nat.le_of_ble_eq_true rfl) ⟨Nat.le_of_ble_eq_true rfl, Nat.le_of_ble_eq_true rfl⟩ ⟨Nat.le_of_ble_eq_true rfl, Nat.le_of_ble_eq_true rfl⟩ rfl rfl d_S_findLeft_7 ?_
  refine b_icmp_ge X (tgt := 64) d_S_findLeft_10 (by decide) (fun h => absurd h c10) (fun _ => ?_)
  refine b_aload_n X d_S_findLeft_13 0 rfl rfl ?_
  refine b_get X fl_S_9 5 rfl (v := .ref (xa σ 6)) rfl d_S_findLeft_14 ?_
  refine b_iload_n X d_S_findLeft_17 1 rfl rfl ?_
  refine b_iconst X (v := 0) d_S_findLeft_18 (by decide) ?_
  refine b_iast X 6 rfl (by decide) n19 e19 h19 (uWC_6 G σ n19 0) d_S_findLeft_19 ?_
  refine b_iconst X (v := 0) d_S_findLeft_20 (by decide) ?_
  refine b_istore_n X (lv' := [(0, .ref (xa σ 5)), (1, .int x1), (2, .int 0)]) d_S_findLeft_21 rfl (by decide) [1, 2, 0] rfl ?_
  exact k
theorem sg_S_findLeft_22_t2 {K : KX} {G : GG} {w0 : va_W} {Q : State → Prop} (X : Bd K G w0 "FirstTrees$Study" c_S_findLeft 3 none rm_S_findLeft) (σ : St) (x1 : Int32) (x2 : Int32) (n28 : Nat) (e28 : x1 = nI n28) (h28 : n28 < 16) (c31 : (altC σ n28) ≤ x2) (k : Lb K G w0 Q 3 2 [(0, .ref (xa σ 5)), (1, .int (x1 + 1))] [] (WC G σ) 0 0) : Lb K G w0 Q 3 22 [(0, .ref (xa σ 5)), (1, .int x1), (2, .int x2)] [] (WC G σ) 0 0 := by
  refine b_iload_n X d_S_findLeft_22 2 rfl rfl ?_
  refine b_aload_n X d_S_findLeft_23 0 rfl rfl ?_
  refine b_get X fl_S_25 5 rfl (v := .ref (xa σ 1)) rfl d_S_findLeft_24 ?_
  refine b_iload_n X d_S_findLeft_27 1 rfl rfl ?_
  refine b_dV X cf_G_alternatives ci_G_alternatives ml_S_65 (ct_G_alternatives G σ x1 n28 e28 h28) 1 rfl rfl (As := [.int x1]) (rest := [.int x2]) rfl (Nat.le_of_ble_eq_true rfl) ⟨Nat.le_of_ble_eq_true rfl, Nat.le_of_ble_eq_true rfl⟩ ⟨Nat.le_of_ble_eq_true rfl, Nat.le_of_ble_eq_true rfl⟩ rfl rfl d_S_findLeft_28 ?_
  refine b_icmp_ge X (tgt := 58) d_S_findLeft_31 (by decide) (fun _ => ?_) (fun h => absurd c31 h)
  refine b_iinc X (lv' := [(0, .ref (xa σ 5)), (1, .int (x1 + 1)), (2, .int x2)]) d_S_findLeft_58 1 rfl (v := (x1 + 1)) rfl (by decide) [1, 0, 2] rfl ?_
  refine b_goto X (tgt := 2) d_S_findLeft_61 (by decide) ?_
  refine Lb.pick (lv' := [(0, .ref (xa σ 5)), (1, .int (x1 + 1))]) [0, 1] rfl ?_
  exact k
theorem sg_S_findLeft_22_f22 {K : KX} {G : GG} {w0 : va_W} {Q : State → Prop} (X : Bd K G w0 "FirstTrees$Study" c_S_findLeft 3 none rm_S_findLeft) (σ : St) (x1 : Int32) (x2 : Int32) (n28 : Nat) (r47 : Int32) (e28 : x1 = nI n28) (h28 : n28 < 16) (c31 : ¬ (altC σ n28) ≤ x2) (t47 : Ct y_S_rulesAtLeft c_S_rulesAtLeft 5 (some .int) rm_S_rulesAtLeft G [.ref (xa σ 5), .int ((x1 * 8) + x2)] (WC G σ) (eqp (some (.int r47)) (WC G σ))) (k : Lb K G w0 Q 3 22 [(0, .ref (xa σ 5)), (1, .int x1), (2, .int (x2 + 1))] [] (WC G (wi σ 6 n28 ((xi σ 6 n28) ||| r47))) 0 0) : Lb K G w0 Q 3 22 [(0, .ref (xa σ 5)), (1, .int x1), (2, .int x2)] [] (WC G σ) 0 0 := by
  refine b_iload_n X d_S_findLeft_22 2 rfl rfl ?_
  refine b_aload_n X d_S_findLeft_23 0 rfl rfl ?_
  refine b_get X fl_S_25 5 rfl (v := .ref (xa σ 1)) rfl d_S_findLeft_24 ?_
  refine b_iload_n X d_S_findLeft_27 1 rfl rfl ?_
  refine b_dV X cf_G_alternatives ci_G_alternatives ml_S_65 (ct_G_alternatives G σ x1 n28 e28 h28) 1 rfl rfl (As := [.int x1]) (rest := [.int x2]) rfl (Nat.le_of_ble_eq_true rfl) ⟨Nat.le_of_ble_eq_true rfl, Nat.le_of_ble_eq_true rfl⟩ ⟨Nat.le_of_ble_eq_true rfl, Nat.le_of_ble_eq_true rfl⟩ rfl rfl d_S_findLeft_28 ?_
  refine b_icmp_ge X (tgt := 58) d_S_findLeft_31 (by decide) (fun h => absurd h c31) (fun _ => ?_)
  refine b_aload_n X d_S_findLeft_34 0 rfl rfl ?_
  refine b_get X fl_S_9 5 rfl (v := .ref (xa σ 6)) rfl d_S_findLeft_35 ?_
  refine b_iload_n X d_S_findLeft_38 1 rfl rfl ?_
  refine b_dup2 X d_S_findLeft_39 rfl rfl ?_
  refine b_iald X 6 rfl (by decide) n28 e28 h28 d_S_findLeft_40 ?_
  refine b_aload_n X d_S_findLeft_41 0 rfl rfl ?_
  refine b_iload_n X d_S_findLeft_42 1 rfl rfl ?_
  refine b_iload_n X d_S_findLeft_43 2 rfl rfl ?_
  refine b_dS X cf_G_row ci_G_row ml_S_71 (ct_G_row_ G σ x1 x2) (As := [.int x1, .int x2]) (rest := [.ref (xa σ 5), .int (xi σ 6 n28), .int x1, .ref (xa σ 6)]) rfl (Nat.le_of_ble_eq_true rfl) ⟨Nat.le_of_ble_eq_true rfl, Nat.le_of_ble_eq_true rfl⟩ ⟨Nat.le_of_ble_eq_true rfl, Nat.le_of_ble_eq_true rfl⟩ rfl rfl d_S_findLeft_44 ?_
  refine b_dV X cf_S_rulesAtLeft ci_S_rulesAtLeft ml_S_102 t47 5 rfl rfl (As := [.int ((x1 * 8) + x2)]) (rest := [.int (xi σ 6 n28), .int x1, .ref (xa σ 6)]) rfl (Nat.le_of_ble_eq_true rfl) ⟨Nat.le_of_ble_eq_true rfl, Nat.le_of_ble_eq_true rfl⟩ ⟨Nat.le_of_ble_eq_true rfl, Nat.le_of_ble_eq_true rfl⟩ rfl rfl d_S_findLeft_47 ?_
  refine b_ior X d_S_findLeft_50 ?_
  refine b_iast X 6 rfl (by decide) n28 e28 h28 (uWC_6 G σ n28 ((xi σ 6 n28) ||| r47)) d_S_findLeft_51 ?_
  refine b_iinc X (lv' := [(0, .ref (xa σ 5)), (1, .int x1), (2, .int (x2 + 1))]) d_S_findLeft_52 2 rfl (v := (x2 + 1)) rfl (by decide) [1, 2, 0] rfl ?_
  refine b_goto X (tgt := 22) d_S_findLeft_55 (by decide) ?_
  exact k
theorem sg_S_findLeft_66_tr {K : KX} {G : GG} {w0 : va_W} {post : PostT} (X : Bd K G w0 "FirstTrees$Study" c_S_findLeft 3 none rm_S_findLeft) (σ : St) (x1 : Int32)  (c74 : (xi σ 1 0) ≤ x1) (hp : post none (WC G σ)) : Lb K G w0 (Qe K G w0 post rm_S_findLeft) 3 66 [(0, .ref (xa σ 5)), (1, .int x1)] [] (WC G σ) 0 0 := by
  refine b_iload_n X d_S_findLeft_66 1 rfl rfl ?_
  refine b_aload_n X d_S_findLeft_67 0 rfl rfl ?_
  refine b_get X fl_S_25 5 rfl (v := .ref (xa σ 1)) rfl d_S_findLeft_68 ?_
  refine b_dV X cf_G_rules ci_G_rules ml_S_83 (ct_G_rules_ G σ ) 1 rfl rfl (As := []) (rest := [.int x1]) rfl (Nat.le_of_ble_eq_true rfl) ⟨Nat.le_of_ble_eq_true rfl, Nat.le_of_ble_eq_true rfl⟩ ⟨Nat.le_of_ble_eq_true rfl, Nat.le_of_ble_eq_true rfl⟩ rfl rfl d_S_findLeft_71 ?_
  refine b_icmp_ge X (tgt := 131) d_S_findLeft_74 (by decide) (fun _ => ?_) (fun h => absurd c74 h)
  exact b_vret X d_S_findLeft_131 hp
theorem sg_S_findLeft_66_f79 {K : KX} {G : GG} {w0 : va_W} {Q : State → Prop} (X : Bd K G w0 "FirstTrees$Study" c_S_findLeft 3 none rm_S_findLeft) (σ : St) (x1 : Int32)  (c74 : ¬ (xi σ 1 0) ≤ x1) (k : Lb K G w0 Q 3 79 [(0, .ref (xa σ 5)), (1, .int x1), (2, .int 0)] [] (WC G σ) 0 0) : Lb K G w0 Q 3 66 [(0, .ref (xa σ 5)), (1, .int x1)] [] (WC G σ) 0 0 := by
  refine b_iload_n X d_S_findLeft_66 1 rfl rfl ?_
  refine b_aload_n X d_S_findLeft_67 0 rfl rfl ?_
  refine b_get X fl_S_25 5 rfl (v := .ref (xa σ 1)) rfl d_S_findLeft_68 ?_
  refine b_dV X cf_G_rules ci_G_rules ml_S_83 (ct_G_rules_ G σ ) 1 rfl rfl (As := []) (rest := [.int x1]) rfl (Nat.le_of_ble_eq_true rfl) ⟨Nat.le_of_ble_eq_true rfl, Nat.le_of_ble_eq_true rfl⟩ ⟨Nat.le_of_ble_eq_true rfl, Nat.le_of_ble_eq_true rfl⟩ rfl rfl d_S_findLeft_71 ?_
  refine b_icmp_ge X (tgt := 131) d_S_findLeft_74 (by decide) (fun h => absurd h c74) (fun _ => ?_)
  refine b_iconst X (v := 0) d_S_findLeft_77 (by decide) ?_
  refine b_istore_n X (lv' := [(0, .ref (xa σ 5)), (1, .int x1), (2, .int 0)]) d_S_findLeft_78 rfl (by decide) [1, 2, 0] rfl ?_
  exact k
theorem sg_S_findLeft_79_t66 {K : KX} {G : GG} {w0 : va_W} {Q : State → Prop} (X : Bd K G w0 "FirstTrees$Study" c_S_findLeft 3 none rm_S_findLeft) (σ : St) (x1 : Int32) (x2 : Int32)  (c87 : (xi σ 1 0) ≤ x2) (k : Lb K G w0 Q 3 66 [(0, .ref (xa σ 5)), (1, .int (x1 + 1))] [] (WC G σ) 0 0) : Lb K G w0 Q 3 79 [(0, .ref (xa σ 5)), (1, .int x1), (2, .int x2)] [] (WC G σ) 0 0 := by
  refine b_iload_n X d_S_findLeft_79 2 rfl rfl ?_
  refine b_aload_n X d_S_findLeft_80 0 rfl rfl ?_
  refine b_get X fl_S_25 5 rfl (v := .ref (xa σ 1)) rfl d_S_findLeft_81 ?_
  refine b_dV X cf_G_rules ci_G_rules ml_S_83 (ct_G_rules_ G σ ) 1 rfl rfl (As := []) (rest := [.int x2]) rfl (Nat.le_of_ble_eq_true rfl) ⟨Nat.le_of_ble_eq_true rfl, Nat.le_of_ble_eq_true rfl⟩ ⟨Nat.le_of_ble_eq_true rfl, Nat.le_of_ble_eq_true rfl⟩ rfl rfl d_S_findLeft_84 ?_
  refine b_icmp_ge X (tgt := 125) d_S_findLeft_87 (by decide) (fun _ => ?_) (fun h => absurd c87 h)
  refine b_iinc X (lv' := [(0, .ref (xa σ 5)), (1, .int (x1 + 1)), (2, .int x2)]) d_S_findLeft_125 1 rfl (v := (x1 + 1)) rfl (by decide) [1, 0, 2] rfl ?_
  refine b_goto X (tgt := 66) d_S_findLeft_128 (by decide) ?_
  refine Lb.pick (lv' := [(0, .ref (xa σ 5)), (1, .int (x1 + 1))]) [0, 1] rfl ?_
  exact k
theorem sg_S_findLeft_79_ft79 {K : KX} {G : GG} {w0 : va_W} {Q : State → Prop} (X : Bd K G w0 "FirstTrees$Study" c_S_findLeft 3 none rm_S_findLeft) (σ : St) (x1 : Int32) (x2 : Int32) (n95 : Nat) (c87 : ¬ (xi σ 1 0) ≤ x2) (e95 : x2 = nI n95) (h95 : n95 < 16) (c101 : (hasB (Int32.toInt64 (xi σ 6 n95)) x1) = 0) (k : Lb K G w0 Q 3 79 [(0, .ref (xa σ 5)), (1, .int x1), (2, .int (x2 + 1))] [] (WC G σ) 0 0) : Lb K G w0 Q 3 79 [(0, .ref (xa σ 5)), (1, .int x1), (2, .int x2)] [] (WC G σ) 0 0 := by
  refine b_iload_n X d_S_findLeft_79 2 rfl rfl ?_
  refine b_aload_n X d_S_findLeft_80 0 rfl rfl ?_
  refine b_get X fl_S_25 5 rfl (v := .ref (xa σ 1)) rfl d_S_findLeft_81 ?_
  refine b_dV X cf_G_rules ci_G_rules ml_S_83 (ct_G_rules_ G σ ) 1 rfl rfl (As := []) (rest := [.int x2]) rfl (Nat.le_of_ble_eq_true rfl) ⟨Nat.le_of_ble_eq_true rfl, Nat.le_of_ble_eq_true rfl⟩ ⟨Nat.le_of_ble_eq_true rfl, Nat.le_of_ble_eq_true rfl⟩ rfl rfl d_S_findLeft_84 ?_
  refine b_icmp_ge X (tgt := 125) d_S_findLeft_87 (by decide) (fun h => absurd h c87) (fun _ => ?_)
  refine b_aload_n X d_S_findLeft_90 0 rfl rfl ?_
  refine b_get X fl_S_9 5 rfl (v := .ref (xa σ 6)) rfl d_S_findLeft_91 ?_
  refine b_iload_n X d_S_findLeft_94 2 rfl rfl ?_
  refine b_iald X 6 rfl (by decide) n95 e95 h95 d_S_findLeft_95 ?_
  refine b_i2l X (v := (Int32.toInt64 (xi σ 6 n95))) d_S_findLeft_96 rfl ?_
  refine b_iload_n X d_S_findLeft_97 1 rfl rfl ?_
  refine b_dSN X cf_F_has ci_F_has mn_S_61 (ct_F_has G σ (Int32.toInt64 (xi σ 6 n95)) x1) (As := [.long (Int32.toInt64 (xi σ 6 n95)), .int x1]) (rest := []) rfl (Nat.le_of_ble_eq_true rfl) ⟨Nat.le_of_ble_eq_true rfl, Nat.le_of_ble_eq_true rfl⟩ ⟨Nat.le_of_ble_eq_true rfl, Nat.le_of_ble_eq_true rfl⟩ rfl rfl d_S_findLeft_98 ?_
  refine b_if_eq X (tgt := 119) d_S_findLeft_101 (by decide) (fun _ => ?_) (fun h => absurd c101 h)
  refine b_iinc X (lv' := [(0, .ref (xa σ 5)), (1, .int x1), (2, .int (x2 + 1))]) d_S_findLeft_119 2 rfl (v := (x2 + 1)) rfl (by decide) [1, 2, 0] rfl ?_
  refine b_goto X (tgt := 79) d_S_findLeft_122 (by decide) ?_
  exact k
theorem sg_S_findLeft_79_ff79 {K : KX} {G : GG} {w0 : va_W} {Q : State → Prop} (X : Bd K G w0 "FirstTrees$Study" c_S_findLeft 3 none rm_S_findLeft) (σ : St) (x1 : Int32) (x2 : Int32) (n95 : Nat) (n116 : Nat) (c87 : ¬ (xi σ 1 0) ≤ x2) (e95 : x2 = nI n95) (h95 : n95 < 16) (c101 : ¬ (hasB (Int32.toInt64 (xi σ 6 n95)) x1) = 0) (e116 : x1 = nI n116) (h116 : n116 < 16) (k : Lb K G w0 Q 3 79 [(0, .ref (xa σ 5)), (1, .int x1), (2, .int (x2 + 1))] [] (WC G (wi σ 6 n95 ((xi σ 6 n95) ||| (xi σ 6 n116)))) 0 0) : Lb K G w0 Q 3 79 [(0, .ref (xa σ 5)), (1, .int x1), (2, .int x2)] [] (WC G σ) 0 0 := by
  refine b_iload_n X d_S_findLeft_79 2 rfl rfl ?_
  refine b_aload_n X d_S_findLeft_80 0 rfl rfl ?_
  refine b_get X fl_S_25 5 rfl (v := .ref (xa σ 1)) rfl d_S_findLeft_81 ?_
  refine b_dV X cf_G_rules ci_G_rules ml_S_83 (ct_G_rules_ G σ ) 1 rfl rfl (As := []) (rest := [.int x2]) rfl (Nat.le_of_ble_eq_true rfl) ⟨Nat.le_of_ble_eq_true rfl, Nat.le_of_ble_eq_true rfl⟩ ⟨Nat.le_of_ble_eq_true rfl, Nat.le_of_ble_eq_true rfl⟩ rfl rfl d_S_findLeft_84 ?_
  refine b_icmp_ge X (tgt := 125) d_S_findLeft_87 (by decide) (fun h => absurd h c87) (fun _ => ?_)
  refine b_aload_n X d_S_findLeft_90 0 rfl rfl ?_
  refine b_get X fl_S_9 5 rfl (v := .ref (xa σ 6)) rfl d_S_findLeft_91 ?_
  refine b_iload_n X d_S_findLeft_94 2 rfl rfl ?_
  refine b_iald X 6 rfl (by decide) n95 e95 h95 d_S_findLeft_95 ?_
  refine b_i2l X (v := (Int32.toInt64 (xi σ 6 n95))) d_S_findLeft_96 rfl ?_
  refine b_iload_n X d_S_findLeft_97 1 rfl rfl ?_
  refine b_dSN X cf_F_has ci_F_has mn_S_61 (ct_F_has G σ (Int32.toInt64 (xi σ 6 n95)) x1) (As := [.long (Int32.toInt64 (xi σ 6 n95)), .int x1]) (rest := []) rfl (Nat.le_of_ble_eq_true rfl) ⟨Nat.le_of_ble_eq_true rfl, Nat.le_of_ble_eq_true rfl⟩ ⟨Nat.le_of_ble_eq_true rfl, Nat.le_of_ble_eq_true rfl⟩ rfl rfl d_S_findLeft_98 ?_
  refine b_if_eq X (tgt := 119) d_S_findLeft_101 (by decide) (fun h => absurd h c101) (fun _ => ?_)
  refine b_aload_n X d_S_findLeft_104 0 rfl rfl ?_
  refine b_get X fl_S_9 5 rfl (v := .ref (xa σ 6)) rfl d_S_findLeft_105 ?_
  refine b_iload_n X d_S_findLeft_108 2 rfl rfl ?_
  refine b_dup2 X d_S_findLeft_109 rfl rfl ?_
  refine b_iald X 6 rfl (by decide) n95 e95 h95 d_S_findLeft_110 ?_
  refine b_aload_n X d_S_findLeft_111 0 rfl rfl ?_
  refine b_get X fl_S_9 5 rfl (v := .ref (xa σ 6)) rfl d_S_findLeft_112 ?_
  refine b_iload_n X d_S_findLeft_115 1 rfl rfl ?_
  refine b_iald X 6 rfl (by decide) n116 e116 h116 d_S_findLeft_116 ?_
  refine b_ior X d_S_findLeft_117 ?_
  refine b_iast X 6 rfl (by decide) n95 e95 h95 (uWC_6 G σ n95 ((xi σ 6 n95) ||| (xi σ 6 n116))) d_S_findLeft_118 ?_
  refine b_iinc X (lv' := [(0, .ref (xa σ 5)), (1, .int x1), (2, .int (x2 + 1))]) d_S_findLeft_119 2 rfl (v := (x2 + 1)) rfl (by decide) [1, 2, 0] rfl ?_
  refine b_goto X (tgt := 79) d_S_findLeft_122 (by decide) ?_
  exact k
theorem sg_S_rulesAtLeft_0_4 {K : KX} {G : GG} {w0 : va_W} {Q : State → Prop} (X : Bd K G w0 "FirstTrees$Study" c_S_rulesAtLeft 5 (some .int) rm_S_rulesAtLeft) (σ : St) (x1 : Int32)   (k : Lb K G w0 Q 5 4 [(0, .ref (xa σ 5)), (1, .int x1), (2, .int 0), (3, .int 0)] [] (WC G σ) 0 0) : Lb K G w0 Q 5 0 [(0, .ref (xa σ 5)), (1, .int x1)] [] (WC G σ) 0 0 := by
  refine b_iconst X (v := 0) d_S_rulesAtLeft_0 (by decide) ?_
  refine b_istore_n X (lv' := [(0, .ref (xa σ 5)), (1, .int x1), (2, .int 0)]) d_S_rulesAtLeft_1 rfl (by decide) [1, 2, 0] rfl ?_
  refine b_iconst X (v := 0) d_S_rulesAtLeft_2 (by decide) ?_
  refine b_istore_n X (lv' := [(0, .ref (xa σ 5)), (1, .int x1), (2, .int 0), (3, .int 0)]) d_S_rulesAtLeft_3 rfl (by decide) [1, 2, 3, 0] rfl ?_
  exact k
theorem sg_S_rulesAtLeft_4_tr {K : KX} {G : GG} {w0 : va_W} {post : PostT} (X : Bd K G w0 "FirstTrees$Study" c_S_rulesAtLeft 5 (some .int) rm_S_rulesAtLeft) (σ : St) (x1 : Int32) (x2 : Int32) (x3 : Int32) (n10 : Nat) (e10 : x1 = nI n10) (h10 : n10 < 128) (c13 : (xi σ 3 n10) ≤ x3) (hp : post (some (.int x2)) (WC G σ)) : Lb K G w0 (Qe K G w0 post rm_S_rulesAtLeft) 5 4 [(0, .ref (xa σ 5)), (1, .int x1), (2, .int x2), (3, .int x3)] [] (WC G σ) 0 0 := by
  refine b_iload_n X d_S_rulesAtLeft_4 3 rfl rfl ?_
  refine b_aload_n X d_S_rulesAtLeft_5 0 rfl rfl ?_
  refine b_get X fl_S_25 5 rfl (v := .ref (xa σ 1)) rfl d_S_rulesAtLeft_6 ?_
  refine b_iload_n X d_S_rulesAtLeft_9 1 rfl rfl ?_
  refine b_dV X cf_G_length ci_G_length ml_S_87 (ct_G_length_ G σ x1 n10 e10 h10) 1 rfl rfl (As := [.int x1]) (rest := [.int x3]) rfl (Nat.le_of_ble_eq_true rfl) ⟨Nat.le_of_ble_eq_true rfl, Nat.le_of_ble_eq_true rfl⟩ ⟨Nat.le_of_ble_eq_true rfl, Nat.le_of_ble_eq_true rfl⟩ rfl rfl d_S_rulesAtLeft_10 ?_
  refine b_icmp_ge X (tgt := 63) d_S_rulesAtLeft_13 (by decide) (fun _ => ?_) (fun h => absurd c13 h)
  refine b_iload_n X d_S_rulesAtLeft_63 2 rfl rfl ?_
  exact b_iret X d_S_rulesAtLeft_64 hp
theorem sg_S_rulesAtLeft_4_ftt4 {K : KX} {G : GG} {w0 : va_W} {Q : State → Prop} (X : Bd K G w0 "FirstTrees$Study" c_S_rulesAtLeft 5 (some .int) rm_S_rulesAtLeft) (σ : St) (x1 : Int32) (x2 : Int32) (x3 : Int32) (n10 : Nat) (n22 : Nat) (r48 : Int32) (e10 : x1 = nI n10) (h10 : n10 < 128) (c13 : ¬ (xi σ 3 n10) ≤ x3) (e22 : ((x1 * 8) + x3) = nI n22) (h22 : n22 < 1024) (c32 : ¬ (b2i (0 ≤ (xi σ 4 n22))) = 0) (t48 : Ct y_S_symbolIsNothing c_S_symbolIsNothing 2 (some .boolean) rm_S_symbolIsNothing G [.ref (xa σ 5), .int (xi σ 4 n22)] (WC G σ) (eqp (some (.int r48)) (WC G σ))) (c51 : ¬ r48 = 0) (k : Lb K G w0 Q 5 4 [(0, .ref (xa σ 5)), (1, .int x1), (2, .int x2), (3, .int (x3 + 1))] [] (WC G σ) 0 0) : Lb K G w0 Q 5 4 [(0, .ref (xa σ 5)), (1, .int x1), (2, .int x2), (3, .int x3)] [] (WC G σ) 0 0 := by
  refine b_iload_n X d_S_rulesAtLeft_4 3 rfl rfl ?_
  refine b_aload_n X d_S_rulesAtLeft_5 0 rfl rfl ?_
  refine b_get X fl_S_25 5 rfl (v := .ref (xa σ 1)) rfl d_S_rulesAtLeft_6 ?_
  refine b_iload_n X d_S_rulesAtLeft_9 1 rfl rfl ?_
  refine b_dV X cf_G_length ci_G_length ml_S_87 (ct_G_length_ G σ x1 n10 e10 h10) 1 rfl rfl (As := [.int x1]) (rest := [.int x3]) rfl (Nat.le_of_ble_eq_true rfl) ⟨Nat.le_of_ble_eq_true rfl, Nat.le_of_ble_eq_true rfl⟩ ⟨Nat.le_of_ble_eq_true rfl, Nat.le_of_ble_eq_true rfl⟩ rfl rfl d_S_rulesAtLeft_10 ?_
  refine b_icmp_ge X (tgt := 63) d_S_rulesAtLeft_13 (by decide) (fun h => absurd h c13) (fun _ => ?_)
  refine b_aload_n X d_S_rulesAtLeft_16 0 rfl rfl ?_
  refine b_get X fl_S_25 5 rfl (v := .ref (xa σ 1)) rfl d_S_rulesAtLeft_17 ?_
  refine b_iload_n X d_S_rulesAtLeft_20 1 rfl rfl ?_
  refine b_iload_n X d_S_rulesAtLeft_21 3 rfl rfl ?_
  refine b_dV X cf_G_symbolAt ci_G_symbolAt ml_S_90 (ct_G_symbolAt_ G σ x1 x3 n22 e22 h22) 1 rfl rfl (As := [.int x1, .int x3]) (rest := []) rfl (Nat.le_of_ble_eq_true rfl) ⟨Nat.le_of_ble_eq_true rfl, Nat.le_of_ble_eq_true rfl⟩ ⟨Nat.le_of_ble_eq_true rfl, Nat.le_of_ble_eq_true rfl⟩ rfl rfl d_S_rulesAtLeft_22 ?_
  refine b_istore X (lv' := [(0, .ref (xa σ 5)), (1, .int x1), (2, .int x2), (3, .int x3), (4, .int (xi σ 4 n22))]) d_S_rulesAtLeft_25 (by decide) [1, 2, 3, 4, 0] rfl ?_
  refine b_iload X d_S_rulesAtLeft_27 4 rfl ?_
  refine b_dS X cf_G_isToken ci_G_isToken ml_S_96 (ct_G_isToken G σ (xi σ 4 n22)) (As := [.int (xi σ 4 n22)]) (rest := []) rfl (Nat.le_of_ble_eq_true rfl) ⟨Nat.le_of_ble_eq_true rfl, Nat.le_of_ble_eq_true rfl⟩ ⟨Nat.le_of_ble_eq_true rfl, Nat.le_of_ble_eq_true rfl⟩ rfl rfl d_S_rulesAtLeft_29 ?_
  refine b_if_ne X (tgt := 45) d_S_rulesAtLeft_32 (by decide) (fun _ => ?_) (fun h => absurd h c32)
  refine b_aload_n X d_S_rulesAtLeft_45 0 rfl rfl ?_
  refine b_iload X d_S_rulesAtLeft_46 4 rfl ?_
  refine b_dV X cf_S_symbolIsNothing ci_S_symbolIsNothing ml_S_93 t48 5 rfl rfl (As := [.int (xi σ 4 n22)]) (rest := []) rfl (Nat.le_of_ble_eq_true rfl) ⟨Nat.le_of_ble_eq_true rfl, Nat.le_of_ble_eq_true rfl⟩ ⟨Nat.le_of_ble_eq_true rfl, Nat.le_of_ble_eq_true rfl⟩ rfl rfl d_S_rulesAtLeft_48 ?_
  refine b_if_ne X (tgt := 57) d_S_rulesAtLeft_51 (by decide) (fun _ => ?_) (fun h => absurd h c51)
  refine b_iinc X (lv' := [(0, .ref (xa σ 5)), (1, .int x1), (2, .int x2), (3, .int (x3 + 1)), (4, .int (xi σ 4 n22))]) d_S_rulesAtLeft_57 3 rfl (v := (x3 + 1)) rfl (by decide) [1, 2, 3, 0, 4] rfl ?_
  refine b_goto X (tgt := 4) d_S_rulesAtLeft_60 (by decide) ?_
  refine Lb.pick (lv' := [(0, .ref (xa σ 5)), (1, .int x1), (2, .int x2), (3, .int (x3 + 1))]) [0, 1, 2, 3] rfl ?_
  exact k
theorem sg_S_rulesAtLeft_4_ftfr {K : KX} {G : GG} {w0 : va_W} {post : PostT} (X : Bd K G w0 "FirstTrees$Study" c_S_rulesAtLeft 5 (some .int) rm_S_rulesAtLeft) (σ : St) (x1 : Int32) (x2 : Int32) (x3 : Int32) (n10 : Nat) (n22 : Nat) (r48 : Int32) (e10 : x1 = nI n10) (h10 : n10 < 128) (c13 : ¬ (xi σ 3 n10) ≤ x3) (e22 : ((x1 * 8) + x3) = nI n22) (h22 : n22 < 1024) (c32 : ¬ (b2i (0 ≤ (xi σ 4 n22))) = 0) (t48 : Ct y_S_symbolIsNothing c_S_symbolIsNothing 2 (some .boolean) rm_S_symbolIsNothing G [.ref (xa σ 5), .int (xi σ 4 n22)] (WC G σ) (eqp (some (.int r48)) (WC G σ))) (c51 : r48 = 0) (hp : post (some (.int x2)) (WC G σ)) : Lb K G w0 (Qe K G w0 post rm_S_rulesAtLeft) 5 4 [(0, .ref (xa σ 5)), (1, .int x1), (2, .int x2), (3, .int x3)] [] (WC G σ) 0 0 := by
  refine b_iload_n X d_S_rulesAtLeft_4 3 rfl rfl ?_
  refine b_aload_n X d_S_rulesAtLeft_5 0 rfl rfl ?_
  refine b_get X fl_S_25 5 rfl (v := .ref (xa σ 1)) rfl d_S_rulesAtLeft_6 ?_
  refine b_iload_n X d_S_rulesAtLeft_9 1 rfl rfl ?_
  refine b_dV X cf_G_length ci_G_length ml_S_87 (ct_G_length_ G σ x1 n10 e10 h10) 1 rfl rfl (As := [.int x1]) (rest := [.int x3]) rfl (Nat.le_of_ble_eq_true rfl) ⟨Nat.le_of_ble_eq_true rfl, Nat.le_of_ble_eq_true rfl⟩ ⟨Nat.le_of_ble_eq_true rfl, Nat.le_of_ble_eq_true rfl⟩ rfl rfl d_S_rulesAtLeft_10 ?_
  refine b_icmp_ge X (tgt := 63) d_S_rulesAtLeft_13 (by decide) (fun h => absurd h c13) (fun _ => ?_)
  refine b_aload_n X d_S_rulesAtLeft_16 0 rfl rfl ?_
  refine b_get X fl_S_25 5 rfl (v := .ref (xa σ 1)) rfl d_S_rulesAtLeft_17 ?_
  refine b_iload_n X d_S_rulesAtLeft_20 1 rfl rfl ?_
  refine b_iload_n X d_S_rulesAtLeft_21 3 rfl rfl ?_
  refine b_dV X cf_G_symbolAt ci_G_symbolAt ml_S_90 (ct_G_symbolAt_ G σ x1 x3 n22 e22 h22) 1 rfl rfl (As := [.int x1, .int x3]) (rest := []) rfl (Nat.le_of_ble_eq_true rfl) ⟨Nat.le_of_ble_eq_true rfl, Nat.le_of_ble_eq_true rfl⟩ ⟨Nat.le_of_ble_eq_true rfl, Nat.le_of_ble_eq_true rfl⟩ rfl rfl d_S_rulesAtLeft_22 ?_
  refine b_istore X (lv' := [(0, .ref (xa σ 5)), (1, .int x1), (2, .int x2), (3, .int x3), (4, .int (xi σ 4 n22))]) d_S_rulesAtLeft_25 (by decide) [1, 2, 3, 4, 0] rfl ?_
  refine b_iload X d_S_rulesAtLeft_27 4 rfl ?_
  refine b_dS X cf_G_isToken ci_G_isToken ml_S_96 (ct_G_isToken G σ (xi σ 4 n22)) (As := [.int (xi σ 4 n22)]) (rest := []) rfl (Nat.le_of_ble_eq_true rfl) ⟨Nat.le_of_ble_eq_true rfl, Nat.le_of_ble_eq_true rfl⟩ ⟨Nat.le_of_ble_eq_true rfl, Nat.le_of_ble_eq_true rfl⟩ rfl rfl d_S_rulesAtLeft_29 ?_
  refine b_if_ne X (tgt := 45) d_S_rulesAtLeft_32 (by decide) (fun _ => ?_) (fun h => absurd h c32)
  refine b_aload_n X d_S_rulesAtLeft_45 0 rfl rfl ?_
  refine b_iload X d_S_rulesAtLeft_46 4 rfl ?_
  refine b_dV X cf_S_symbolIsNothing ci_S_symbolIsNothing ml_S_93 t48 5 rfl rfl (As := [.int (xi σ 4 n22)]) (rest := []) rfl (Nat.le_of_ble_eq_true rfl) ⟨Nat.le_of_ble_eq_true rfl, Nat.le_of_ble_eq_true rfl⟩ ⟨Nat.le_of_ble_eq_true rfl, Nat.le_of_ble_eq_true rfl⟩ rfl rfl d_S_rulesAtLeft_48 ?_
  refine b_if_ne X (tgt := 57) d_S_rulesAtLeft_51 (by decide) (fun h => absurd c51 h) (fun _ => ?_)
  refine b_goto X (tgt := 63) d_S_rulesAtLeft_54 (by decide) ?_
  refine b_iload_n X d_S_rulesAtLeft_63 2 rfl rfl ?_
  exact b_iret X d_S_rulesAtLeft_64 hp
theorem sg_S_rulesAtLeft_4_fft4 {K : KX} {G : GG} {w0 : va_W} {Q : State → Prop} (X : Bd K G w0 "FirstTrees$Study" c_S_rulesAtLeft 5 (some .int) rm_S_rulesAtLeft) (σ : St) (x1 : Int32) (x2 : Int32) (x3 : Int32) (n10 : Nat) (n22 : Nat) (r48 : Int32) (e10 : x1 = nI n10) (h10 : n10 < 128) (c13 : ¬ (xi σ 3 n10) ≤ x3) (e22 : ((x1 * 8) + x3) = nI n22) (h22 : n22 < 1024) (c32 : (b2i (0 ≤ (xi σ 4 n22))) = 0) (t48 : Ct y_S_symbolIsNothing c_S_symbolIsNothing 2 (some .boolean) rm_S_symbolIsNothing G [.ref (xa σ 5), .int (xi σ 4 n22)] (WC G σ) (eqp (some (.int r48)) (WC G σ))) (c51 : ¬ r48 = 0) (k : Lb K G w0 Q 5 4 [(0, .ref (xa σ 5)), (1, .int x1), (2, .int (x2 ||| (1 <<< (((-1) - (xi σ 4 n22)) &&& 31)))), (3, .int (x3 + 1))] [] (WC G σ) 0 0) : Lb K G w0 Q 5 4 [(0, .ref (xa σ 5)), (1, .int x1), (2, .int x2), (3, .int x3)] [] (WC G σ) 0 0 := by
  refine b_iload_n X d_S_rulesAtLeft_4 3 rfl rfl ?_
  refine b_aload_n X d_S_rulesAtLeft_5 0 rfl rfl ?_
  refine b_get X fl_S_25 5 rfl (v := .ref (xa σ 1)) rfl d_S_rulesAtLeft_6 ?_
  refine b_iload_n X d_S_rulesAtLeft_9 1 rfl rfl ?_
  refine b_dV X cf_G_length ci_G_length ml_S_87 (ct_G_length_ G σ x1 n10 e10 h10) 1 rfl rfl (As := [.int x1]) (rest := [.int x3]) rfl (Nat.le_of_ble_eq_true rfl) ⟨Nat.le_of_ble_eq_true rfl, Nat.le_of_ble_eq_true rfl⟩ ⟨Nat.le_of_ble_eq_true rfl, Nat.le_of_ble_eq_true rfl⟩ rfl rfl d_S_rulesAtLeft_10 ?_
  refine b_icmp_ge X (tgt := 63) d_S_rulesAtLeft_13 (by decide) (fun h => absurd h c13) (fun _ => ?_)
  refine b_aload_n X d_S_rulesAtLeft_16 0 rfl rfl ?_
  refine b_get X fl_S_25 5 rfl (v := .ref (xa σ 1)) rfl d_S_rulesAtLeft_17 ?_
  refine b_iload_n X d_S_rulesAtLeft_20 1 rfl rfl ?_
  refine b_iload_n X d_S_rulesAtLeft_21 3 rfl rfl ?_
  refine b_dV X cf_G_symbolAt ci_G_symbolAt ml_S_90 (ct_G_symbolAt_ G σ x1 x3 n22 e22 h22) 1 rfl rfl (As := [.int x1, .int x3]) (rest := []) rfl (Nat.le_of_ble_eq_true rfl) ⟨Nat.le_of_ble_eq_true rfl, Nat.le_of_ble_eq_true rfl⟩ ⟨Nat.le_of_ble_eq_true rfl, Nat.le_of_ble_eq_true rfl⟩ rfl rfl d_S_rulesAtLeft_22 ?_
  refine b_istore X (lv' := [(0, .ref (xa σ 5)), (1, .int x1), (2, .int x2), (3, .int x3), (4, .int (xi σ 4 n22))]) d_S_rulesAtLeft_25 (by decide) [1, 2, 3, 4, 0] rfl ?_
  refine b_iload X d_S_rulesAtLeft_27 4 rfl ?_
  refine b_dS X cf_G_isToken ci_G_isToken ml_S_96 (ct_G_isToken G σ (xi σ 4 n22)) (As := [.int (xi σ 4 n22)]) (rest := []) rfl (Nat.le_of_ble_eq_true rfl) ⟨Nat.le_of_ble_eq_true rfl, Nat.le_of_ble_eq_true rfl⟩ ⟨Nat.le_of_ble_eq_true rfl, Nat.le_of_ble_eq_true rfl⟩ rfl rfl d_S_rulesAtLeft_29 ?_
  refine b_if_ne X (tgt := 45) d_S_rulesAtLeft_32 (by decide) (fun h => absurd c32 h) (fun _ => ?_)
  refine b_iload_n X d_S_rulesAtLeft_35 2 rfl rfl ?_
  refine b_iconst X (v := 1) d_S_rulesAtLeft_36 (by decide) ?_
  refine b_iload X d_S_rulesAtLeft_37 4 rfl ?_
  refine b_dS X cf_G_ruleOf ci_G_ruleOf ml_S_99 (ct_G_ruleOf_ G σ (xi σ 4 n22)) (As := [.int (xi σ 4 n22)]) (rest := [.int 1, .int x2]) rfl (Nat.le_of_ble_eq_true rfl) ⟨Nat.le_of_ble_eq_true rfl, Nat.le_of_ble_eq_true rfl⟩ ⟨Nat.le_of_ble_eq_true rfl, Nat.le_of_ble_eq_true rfl⟩ rfl rfl d_S_rulesAtLeft_39 ?_
  refine b_ishl X d_S_rulesAtLeft_42 ?_
  refine b_ior X d_S_rulesAtLeft_43 ?_
  refine b_istore_n X (lv' := [(0, .ref (xa σ 5)), (1, .int x1), (2, .int (x2 ||| (1 <<< (((-1) - (xi σ 4 n22)) &&& 31)))), (3, .int x3), (4, .int (xi σ 4 n22))]) d_S_rulesAtLeft_44 rfl (by decide) [1, 2, 0, 3, 4] rfl ?_
  refine b_aload_n X d_S_rulesAtLeft_45 0 rfl rfl ?_
  refine b_iload X d_S_rulesAtLeft_46 4 rfl ?_
  refine b_dV X cf_S_symbolIsNothing ci_S_symbolIsNothing ml_S_93 t48 5 rfl rfl (As := [.int (xi σ 4 n22)]) (rest := []) rfl (Nat.le_of_ble_eq_true rfl) ⟨Nat.le_of_ble_eq_true rfl, Nat.le_of_ble_eq_true rfl⟩ ⟨Nat.le_of_ble_eq_true rfl, Nat.le_of_ble_eq_true rfl⟩ rfl rfl d_S_rulesAtLeft_48 ?_
  refine b_if_ne X (tgt := 57) d_S_rulesAtLeft_51 (by decide) (fun _ => ?_) (fun h => absurd h c51)
  refine b_iinc X (lv' := [(0, .ref (xa σ 5)), (1, .int x1), (2, .int (x2 ||| (1 <<< (((-1) - (xi σ 4 n22)) &&& 31)))), (3, .int (x3 + 1)), (4, .int (xi σ 4 n22))]) d_S_rulesAtLeft_57 3 rfl (v := (x3 + 1)) rfl (by decide) [1, 2, 3, 0, 4] rfl ?_
  refine b_goto X (tgt := 4) d_S_rulesAtLeft_60 (by decide) ?_
  refine Lb.pick (lv' := [(0, .ref (xa σ 5)), (1, .int x1), (2, .int (x2 ||| (1 <<< (((-1) - (xi σ 4 n22)) &&& 31)))), (3, .int (x3 + 1))]) [0, 1, 2, 3] rfl ?_
  exact k
theorem sg_S_rulesAtLeft_4_fffr {K : KX} {G : GG} {w0 : va_W} {post : PostT} (X : Bd K G w0 "FirstTrees$Study" c_S_rulesAtLeft 5 (some .int) rm_S_rulesAtLeft) (σ : St) (x1 : Int32) (x2 : Int32) (x3 : Int32) (n10 : Nat) (n22 : Nat) (r48 : Int32) (e10 : x1 = nI n10) (h10 : n10 < 128) (c13 : ¬ (xi σ 3 n10) ≤ x3) (e22 : ((x1 * 8) + x3) = nI n22) (h22 : n22 < 1024) (c32 : (b2i (0 ≤ (xi σ 4 n22))) = 0) (t48 : Ct y_S_symbolIsNothing c_S_symbolIsNothing 2 (some .boolean) rm_S_symbolIsNothing G [.ref (xa σ 5), .int (xi σ 4 n22)] (WC G σ) (eqp (some (.int r48)) (WC G σ))) (c51 : r48 = 0) (hp : post (some (.int (x2 ||| (1 <<< (((-1) - (xi σ 4 n22)) &&& 31))))) (WC G σ)) : Lb K G w0 (Qe K G w0 post rm_S_rulesAtLeft) 5 4 [(0, .ref (xa σ 5)), (1, .int x1), (2, .int x2), (3, .int x3)] [] (WC G σ) 0 0 := by
  refine b_iload_n X d_S_rulesAtLeft_4 3 rfl rfl ?_
  refine b_aload_n X d_S_rulesAtLeft_5 0 rfl rfl ?_
  refine b_get X fl_S_25 5 rfl (v := .ref (xa σ 1)) rfl d_S_rulesAtLeft_6 ?_
  refine b_iload_n X d_S_rulesAtLeft_9 1 rfl rfl ?_
  refine b_dV X cf_G_length ci_G_length ml_S_87 (ct_G_length_ G σ x1 n10 e10 h10) 1 rfl rfl (As := [.int x1]) (rest := [.int x3]) rfl (Nat.le_of_ble_eq_true rfl) ⟨Nat.le_of_ble_eq_true rfl, Nat.le_of_ble_eq_true rfl⟩ ⟨Nat.le_of_ble_eq_true rfl, Nat.le_of_ble_eq_true rfl⟩ rfl rfl d_S_rulesAtLeft_10 ?_
  refine b_icmp_ge X (tgt := 63) d_S_rulesAtLeft_13 (by decide) (fun h => absurd h c13) (fun _ => ?_)
  refine b_aload_n X d_S_rulesAtLeft_16 0 rfl rfl ?_
  refine b_get X fl_S_25 5 rfl (v := .ref (xa σ 1)) rfl d_S_rulesAtLeft_17 ?_
  refine b_iload_n X d_S_rulesAtLeft_20 1 rfl rfl ?_
  refine b_iload_n X d_S_rulesAtLeft_21 3 rfl rfl ?_
  refine b_dV X cf_G_symbolAt ci_G_symbolAt ml_S_90 (ct_G_symbolAt_ G σ x1 x3 n22 e22 h22) 1 rfl rfl (As := [.int x1, .int x3]) (rest := []) rfl (Nat.le_of_ble_eq_true rfl) ⟨Nat.le_of_ble_eq_true rfl, Nat.le_of_ble_eq_true rfl⟩ ⟨Nat.le_of_ble_eq_true rfl, Nat.le_of_ble_eq_true rfl⟩ rfl rfl d_S_rulesAtLeft_22 ?_
  refine b_istore X (lv' := [(0, .ref (xa σ 5)), (1, .int x1), (2, .int x2), (3, .int x3), (4, .int (xi σ 4 n22))]) d_S_rulesAtLeft_25 (by decide) [1, 2, 3, 4, 0] rfl ?_
  refine b_iload X d_S_rulesAtLeft_27 4 rfl ?_
  refine b_dS X cf_G_isToken ci_G_isToken ml_S_96 (ct_G_isToken G σ (xi σ 4 n22)) (As := [.int (xi σ 4 n22)]) (rest := []) rfl (Nat.le_of_ble_eq_true rfl) ⟨Nat.le_of_ble_eq_true rfl, Nat.le_of_ble_eq_true rfl⟩ ⟨Nat.le_of_ble_eq_true rfl, Nat.le_of_ble_eq_true rfl⟩ rfl rfl d_S_rulesAtLeft_29 ?_
  refine b_if_ne X (tgt := 45) d_S_rulesAtLeft_32 (by decide) (fun h => absurd c32 h) (fun _ => ?_)
  refine b_iload_n X d_S_rulesAtLeft_35 2 rfl rfl ?_
  refine b_iconst X (v := 1) d_S_rulesAtLeft_36 (by decide) ?_
  refine b_iload X d_S_rulesAtLeft_37 4 rfl ?_
  refine b_dS X cf_G_ruleOf ci_G_ruleOf ml_S_99 (ct_G_ruleOf_ G σ (xi σ 4 n22)) (As := [.int (xi σ 4 n22)]) (rest := [.int 1, .int x2]) rfl (Nat.le_of_ble_eq_true rfl) ⟨Nat.le_of_ble_eq_true rfl, Nat.le_of_ble_eq_true rfl⟩ ⟨Nat.le_of_ble_eq_true rfl, Nat.le_of_ble_eq_true rfl⟩ rfl rfl d_S_rulesAtLeft_39 ?_
  refine b_ishl X d_S_rulesAtLeft_42 ?_
  refine b_ior X d_S_rulesAtLeft_43 ?_
  refine b_istore_n X (lv' := [(0, .ref (xa σ 5)), (1, .int x1), (2, .int (x2 ||| (1 <<< (((-1) - (xi σ 4 n22)) &&& 31)))), (3, .int x3), (4, .int (xi σ 4 n22))]) d_S_rulesAtLeft_44 rfl (by decide) [1, 2, 0, 3, 4] rfl ?_
  refine b_aload_n X d_S_rulesAtLeft_45 0 rfl rfl ?_
  refine b_iload X d_S_rulesAtLeft_46 4 rfl ?_
  refine b_dV X cf_S_symbolIsNothing ci_S_symbolIsNothing ml_S_93 t48 5 rfl rfl (As := [.int (xi σ 4 n22)]) (rest := []) rfl (Nat.le_of_ble_eq_true rfl) ⟨Nat.le_of_ble_eq_true rfl, Nat.le_of_ble_eq_true rfl⟩ ⟨Nat.le_of_ble_eq_true rfl, Nat.le_of_ble_eq_true rfl⟩ rfl rfl d_S_rulesAtLeft_48 ?_
  refine b_if_ne X (tgt := 57) d_S_rulesAtLeft_51 (by decide) (fun h => absurd c51 h) (fun _ => ?_)
  refine b_goto X (tgt := 63) d_S_rulesAtLeft_54 (by decide) ?_
  refine b_iload_n X d_S_rulesAtLeft_63 2 rfl rfl ?_
  exact b_iret X d_S_rulesAtLeft_64 hp
theorem sg_S_findFault_0_t26 {K : KX} {G : GG} {w0 : va_W} {Q : State → Prop} (X : Bd K G w0 "FirstTrees$Study" c_S_findFault 3 none rm_S_findFault) (σ : St)   (c8 : ¬ (xi σ 1 0) = 0) (k : Lb K G w0 Q 3 26 [(0, .ref (xa σ 5)), (1, .int 2)] [] (WC G (wi (wi σ 5 1 0) 5 2 (-1))) 0 0) : Lb K G w0 Q 3 0 [(0, .ref (xa σ 5))] [] (WC G σ) 0 0 := by
  refine b_aload_n X d_S_findFault_0 0 rfl rfl ?_
  refine b_aload_n X d_S_findFault_1 0 rfl rfl ?_
  refine b_get X fl_S_25 5 rfl (v := .ref (xa σ 1)) rfl d_S_findFault_2 ?_
  refine b_dV X cf_G_rules ci_G_rules ml_S_83 (ct_G_rules_ G σ ) 1 rfl rfl (As := []) (rest := [.ref (xa σ 5)]) rfl (Nat.le_of_ble_eq_true rfl) ⟨Nat.le_of_ble_eq_true rfl, Nat.le_of_ble_eq_true rfl⟩ ⟨Nat.le_of_ble_eq_true rfl, Nat.le_of_ble_eq_true rfl⟩ rfl rfl d_S_findFault_5 ?_
  refine b_if_ne X (tgt := 15) d_S_findFault_8 (by decide) (fun _ => ?_) (fun h => absurd h c8)
  refine b_iconst X (v := 0) d_S_findFault_15 (by decide) ?_
  refine b_put X fl_S_42 pl_S_fault 5 rfl rfl rfl (Nat.le_of_ble_eq_true rfl) (uWC_5_fault G σ 0) d_S_findFault_16 ?_
  refine b_aload_n X d_S_findFault_19 0 rfl rfl ?_
  refine b_iconst X (v := (-1)) d_S_findFault_20 (by decide) ?_
  refine b_put X fl_S_55 pl_S_faulty 5 rfl rfl rfl (Nat.le_of_ble_eq_true rfl) (uWC_5_faulty G (wi σ 5 1 0) (-1)) d_S_findFault_21 ?_
  refine b_iconst X (v := 2) d_S_findFault_24 (by decide) ?_
  refine b_istore_n X (lv' := [(0, .ref (xa σ 5)), (1, .int 2)]) d_S_findFault_25 rfl (by decide) [1, 0] rfl ?_
  exact k
theorem sg_S_findFault_0_f26 {K : KX} {G : GG} {w0 : va_W} {Q : State → Prop} (X : Bd K G w0 "FirstTrees$Study" c_S_findFault 3 none rm_S_findFault) (σ : St)   (c8 : (xi σ 1 0) = 0) (k : Lb K G w0 Q 3 26 [(0, .ref (xa σ 5)), (1, .int 2)] [] (WC G (wi (wi σ 5 1 1) 5 2 (-1))) 0 0) : Lb K G w0 Q 3 0 [(0, .ref (xa σ 5))] [] (WC G σ) 0 0 := by
  refine b_aload_n X d_S_findFault_0 0 rfl rfl ?_
  refine b_aload_n X d_S_findFault_1 0 rfl rfl ?_
  refine b_get X fl_S_25 5 rfl (v := .ref (xa σ 1)) rfl d_S_findFault_2 ?_
  refine b_dV X cf_G_rules ci_G_rules ml_S_83 (ct_G_rules_ G σ ) 1 rfl rfl (As := []) (rest := [.ref (xa σ 5)]) rfl (Nat.le_of_ble_eq_true rfl) ⟨Nat.le_of_ble_eq_true rfl, Nat.le_of_ble_eq_true rfl⟩ ⟨Nat.le_of_ble_eq_true rfl, Nat.le_of_ble_eq_true rfl⟩ rfl rfl d_S_findFault_5 ?_
  refine b_if_ne X (tgt := 15) d_S_findFault_8 (by decide) (fun h => absurd c8 h) (fun _ => ?_)
  refine b_iconst X (v := 1) d_S_findFault_11 (by decide) ?_
  refine b_goto X (tgt := 16) d_S_findFault_12 (by decide) ?_
  refine b_put X fl_S_42 pl_S_fault 5 rfl rfl rfl (Nat.le_of_ble_eq_true rfl) (uWC_5_fault G σ 1) d_S_findFault_16 ?_
  refine b_aload_n X d_S_findFault_19 0 rfl rfl ?_
  refine b_iconst X (v := (-1)) d_S_findFault_20 (by decide) ?_
  refine b_put X fl_S_55 pl_S_faulty 5 rfl rfl rfl (Nat.le_of_ble_eq_true rfl) (uWC_5_faulty G (wi σ 5 1 1) (-1)) d_S_findFault_21 ?_
  refine b_iconst X (v := 2) d_S_findFault_24 (by decide) ?_
  refine b_istore_n X (lv' := [(0, .ref (xa σ 5)), (1, .int 2)]) d_S_findFault_25 rfl (by decide) [1, 0] rfl ?_
  exact k
theorem sg_S_findFault_26_tr {K : KX} {G : GG} {w0 : va_W} {post : PostT} (X : Bd K G w0 "FirstTrees$Study" c_S_findFault 3 none rm_S_findFault) (σ : St) (x1 : Int32)  (c28 : 4 < x1) (hp : post none (WC G σ)) : Lb K G w0 (Qe K G w0 post rm_S_findFault) 3 26 [(0, .ref (xa σ 5)), (1, .int x1)] [] (WC G σ) 0 0 := by
  refine b_iload_n X d_S_findFault_26 1 rfl rfl ?_
  refine b_iconst X (v := 4) d_S_findFault_27 (by decide) ?_
  refine b_icmp_gt X (tgt := 83) d_S_findFault_28 (by decide) (fun _ => ?_) (fun h => absurd c28 h)
  exact b_vret X d_S_findFault_83 hp
theorem sg_S_findFault_26_ftr {K : KX} {G : GG} {w0 : va_W} {post : PostT} (X : Bd K G w0 "FirstTrees$Study" c_S_findFault 3 none rm_S_findFault) (σ : St) (x1 : Int32)  (c28 : ¬ 4 < x1) (c35 : ¬ (xi σ 5 1) = 0) (hp : post none (WC G σ)) : Lb K G w0 (Qe K G w0 post rm_S_findFault) 3 26 [(0, .ref (xa σ 5)), (1, .int x1)] [] (WC G σ) 0 0 := by
  refine b_iload_n X d_S_findFault_26 1 rfl rfl ?_
  refine b_iconst X (v := 4) d_S_findFault_27 (by decide) ?_
  refine b_icmp_gt X (tgt := 83) d_S_findFault_28 (by decide) (fun h => absurd h c28) (fun _ => ?_)
  refine b_aload_n X d_S_findFault_31 0 rfl rfl ?_
  refine b_get X fl_S_42 5 rfl (v := .int (xi σ 5 1)) rfl d_S_findFault_32 ?_
  refine b_if_ne X (tgt := 83) d_S_findFault_35 (by decide) (fun _ => ?_) (fun h => absurd h c35)
  exact b_vret X d_S_findFault_83 hp
theorem sg_S_findFault_26_ff48 {K : KX} {G : GG} {w0 : va_W} {Q : State → Prop} (X : Bd K G w0 "FirstTrees$Study" c_S_findFault 3 none rm_S_findFault) (σ : St) (x1 : Int32)  (c28 : ¬ 4 < x1) (c35 : (xi σ 5 1) = 0) (k : Lb K G w0 Q 3 48 [(0, .ref (xa σ 5)), (1, .int x1), (2, .int ((xi σ 1 0) - 1))] [] (WC G σ) 0 0) : Lb K G w0 Q 3 26 [(0, .ref (xa σ 5)), (1, .int x1)] [] (WC G σ) 0 0 := by
  refine b_iload_n X d_S_findFault_26 1 rfl rfl ?_
  refine b_iconst X (v := 4) d_S_findFault_27 (by decide) ?_
  refine b_icmp_gt X (tgt := 83) d_S_findFault_28 (by decide) (fun h => absurd h c28) (fun _ => ?_)
  refine b_aload_n X d_S_findFault_31 0 rfl rfl ?_
  refine b_get X fl_S_42 5 rfl (v := .int (xi σ 5 1)) rfl d_S_findFault_32 ?_
  refine b_if_ne X (tgt := 83) d_S_findFault_35 (by decide) (fun h => absurd c35 h) (fun _ => ?_)
  refine b_aload_n X d_S_findFault_38 0 rfl rfl ?_
  refine b_get X fl_S_25 5 rfl (v := .ref (xa σ 1)) rfl d_S_findFault_39 ?_
  refine b_dV X cf_G_rules ci_G_rules ml_S_83 (ct_G_rules_ G σ ) 1 rfl rfl (As := []) (rest := []) rfl (Nat.le_of_ble_eq_true rfl) ⟨Nat.le_of_ble_eq_true rfl, Nat.le_of_ble_eq_true rfl⟩ ⟨Nat.le_of_ble_eq_true rfl, Nat.le_of_ble_eq_true rfl⟩ rfl rfl d_S_findFault_42 ?_
  refine b_iconst X (v := 1) d_S_findFault_45 (by decide) ?_
  refine b_isub X d_S_findFault_46 ?_
  refine b_istore_n X (lv' := [(0, .ref (xa σ 5)), (1, .int x1), (2, .int ((xi σ 1 0) - 1))]) d_S_findFault_47 rfl (by decide) [1, 2, 0] rfl ?_
  exact k
theorem sg_S_findFault_48_t26 {K : KX} {G : GG} {w0 : va_W} {Q : State → Prop} (X : Bd K G w0 "FirstTrees$Study" c_S_findFault 3 none rm_S_findFault) (σ : St) (x1 : Int32) (x2 : Int32)  (c49 : x2 < 0) (k : Lb K G w0 Q 3 26 [(0, .ref (xa σ 5)), (1, .int (x1 + 1))] [] (WC G σ) 0 0) : Lb K G w0 Q 3 48 [(0, .ref (xa σ 5)), (1, .int x1), (2, .int x2)] [] (WC G σ) 0 0 := by
  refine b_iload_n X d_S_findFault_48 2 rfl rfl ?_
  refine b_if_lt X (tgt := 77) d_S_findFault_49 (by decide) (fun _ => ?_) (fun h => absurd c49 h)
  refine b_iinc X (lv' := [(0, .ref (xa σ 5)), (1, .int (x1 + 1)), (2, .int x2)]) d_S_findFault_77 1 rfl (v := (x1 + 1)) rfl (by decide) [1, 0, 2] rfl ?_
  refine b_goto X (tgt := 26) d_S_findFault_80 (by decide) ?_
  refine Lb.pick (lv' := [(0, .ref (xa σ 5)), (1, .int (x1 + 1))]) [0, 1] rfl ?_
  exact k
theorem sg_S_findFault_48_ft48 {K : KX} {G : GG} {w0 : va_W} {Q : State → Prop} (X : Bd K G w0 "FirstTrees$Study" c_S_findFault 3 none rm_S_findFault) (σ : St) (x1 : Int32) (x2 : Int32) (r55 : Int32) (c49 : ¬ x2 < 0) (t55 : Ct y_S_hasFault c_S_hasFault 3 (some .boolean) rm_S_hasFault G [.ref (xa σ 5), .int x2, .int x1] (WC G σ) (eqp (some (.int r55)) (WC G σ))) (c58 : r55 = 0) (k : Lb K G w0 Q 3 48 [(0, .ref (xa σ 5)), (1, .int x1), (2, .int (x2 + (-1)))] [] (WC G σ) 0 0) : Lb K G w0 Q 3 48 [(0, .ref (xa σ 5)), (1, .int x1), (2, .int x2)] [] (WC G σ) 0 0 := by
  refine b_iload_n X d_S_findFault_48 2 rfl rfl ?_
  refine b_if_lt X (tgt := 77) d_S_findFault_49 (by decide) (fun h => absurd h c49) (fun _ => ?_)
  refine b_aload_n X d_S_findFault_52 0 rfl rfl ?_
  refine b_iload_n X d_S_findFault_53 2 rfl rfl ?_
  refine b_iload_n X d_S_findFault_54 1 rfl rfl ?_
  refine b_dV X cf_S_hasFault ci_S_hasFault ml_S_105 t55 5 rfl rfl (As := [.int x2, .int x1]) (rest := []) rfl (Nat.le_of_ble_eq_true rfl) ⟨Nat.le_of_ble_eq_true rfl, Nat.le_of_ble_eq_true rfl⟩ ⟨Nat.le_of_ble_eq_true rfl, Nat.le_of_ble_eq_true rfl⟩ rfl rfl d_S_findFault_55 ?_
  refine b_if_eq X (tgt := 71) d_S_findFault_58 (by decide) (fun _ => ?_) (fun h => absurd c58 h)
  refine b_iinc X (lv' := [(0, .ref (xa σ 5)), (1, .int x1), (2, .int (x2 + (-1)))]) d_S_findFault_71 2 rfl (v := (x2 + (-1))) rfl (by decide) [1, 2, 0] rfl ?_
  refine b_goto X (tgt := 48) d_S_findFault_74 (by decide) ?_
  exact k
theorem sg_S_findFault_48_ff48 {K : KX} {G : GG} {w0 : va_W} {Q : State → Prop} (X : Bd K G w0 "FirstTrees$Study" c_S_findFault 3 none rm_S_findFault) (σ : St) (x1 : Int32) (x2 : Int32) (r55 : Int32) (c49 : ¬ x2 < 0) (t55 : Ct y_S_hasFault c_S_hasFault 3 (some .boolean) rm_S_hasFault G [.ref (xa σ 5), .int x2, .int x1] (WC G σ) (eqp (some (.int r55)) (WC G σ))) (c58 : ¬ r55 = 0) (k : Lb K G w0 Q 3 48 [(0, .ref (xa σ 5)), (1, .int x1), (2, .int (x2 + (-1)))] [] (WC G (wi (wi σ 5 1 x1) 5 2 x2)) 0 0) : Lb K G w0 Q 3 48 [(0, .ref (xa σ 5)), (1, .int x1), (2, .int x2)] [] (WC G σ) 0 0 := by
  refine b_iload_n X d_S_findFault_48 2 rfl rfl ?_
  refine b_if_lt X (tgt := 77) d_S_findFault_49 (by decide) (fun h => absurd h c49) (fun _ => ?_)
  refine b_aload_n X d_S_findFault_52 0 rfl rfl ?_
  refine b_iload_n X d_S_findFault_53 2 rfl rfl ?_
  refine b_iload_n X d_S_findFault_54 1 rfl rfl ?_
  refine b_dV X cf_S_hasFault ci_S_hasFault ml_S_105 t55 5 rfl rfl (As := [.int x2, .int x1]) (rest := []) rfl (Nat.le_of_ble_eq_true rfl) ⟨Nat.le_of_ble_eq_true rfl, Nat.le_of_ble_eq_true rfl⟩ ⟨Nat.le_of_ble_eq_true rfl, Nat.le_of_ble_eq_true rfl⟩ rfl rfl d_S_findFault_55 ?_
  refine b_if_eq X (tgt := 71) d_S_findFault_58 (by decide) (fun h => absurd h c58) (fun _ => ?_)
  refine b_aload_n X d_S_findFault_61 0 rfl rfl ?_
  refine b_iload_n X d_S_findFault_62 1 rfl rfl ?_
  refine b_put X fl_S_42 pl_S_fault 5 rfl rfl rfl (Nat.le_of_ble_eq_true rfl) (uWC_5_fault G σ x1) d_S_findFault_63 ?_
  refine b_aload_n X d_S_findFault_66 0 rfl rfl ?_
  refine b_iload_n X d_S_findFault_67 2 rfl rfl ?_
  refine b_put X fl_S_55 pl_S_faulty 5 rfl rfl rfl (Nat.le_of_ble_eq_true rfl) (uWC_5_faulty G (wi σ 5 1 x1) x2) d_S_findFault_68 ?_
  refine b_iinc X (lv' := [(0, .ref (xa σ 5)), (1, .int x1), (2, .int (x2 + (-1)))]) d_S_findFault_71 2 rfl (v := (x2 + (-1))) rfl (by decide) [1, 2, 0] rfl ?_
  refine b_goto X (tgt := 48) d_S_findFault_74 (by decide) ?_
  exact k
theorem ct_S_hasFault_tt (G : GG) (σ : St) (x1 : Int32) (x2 : Int32) (n38 : Nat) (c2 : ¬ x2 = 2) (c13 : ¬ x2 = 3) (e38 : x1 = nI n38) (h38 : n38 < 16) (z44 : narrow .boolean (.int (hasB (Int32.toInt64 (xi σ 6 n38)) x1)) = .int (hasB (Int32.toInt64 (xi σ 6 n38)) x1)) : Ct y_S_hasFault c_S_hasFault 3 (some .boolean) rm_S_hasFault G [.ref (xa σ 5), .int x1, .int x2] (WC G σ) (eqp (some (.int (hasB (Int32.toInt64 (xi σ 6 n38)) x1))) (WC G σ)) := by
  refine Ct.of (by decide +kernel) (Nat.le_of_ble_eq_true rfl) (fun K X => ?_)
  show Lb K G _ _ 3 0 [(0, .ref (xa σ 5)), (1, .int x1), (2, .int x2)] [] _ 0 0
  refine b_iload_n X d_S_hasFault_0 2 rfl rfl ?_
  refine b_iconst X (v := 2) d_S_hasFault_1 (by decide) ?_
  refine b_icmp_ne X (tgt := 11) d_S_hasFault_2 (by decide) (fun _ => ?_) (fun h => absurd h c2)
  refine b_iload_n X d_S_hasFault_11 2 rfl rfl ?_
  refine b_iconst X (v := 3) d_S_hasFault_12 (by decide) ?_
  refine b_icmp_ne X (tgt := 33) d_S_hasFault_13 (by decide) (fun _ => ?_) (fun h => absurd h c13)
  refine b_aload_n X d_S_hasFault_33 0 rfl rfl ?_
  refine b_get X fl_S_9 5 rfl (v := .ref (xa σ 6)) rfl d_S_hasFault_34 ?_
  refine b_iload_n X d_S_hasFault_37 1 rfl rfl ?_
  refine b_iald X 6 rfl (by decide) n38 e38 h38 d_S_hasFault_38 ?_
  refine b_i2l X (v := (Int32.toInt64 (xi σ 6 n38))) d_S_hasFault_39 rfl ?_
  refine b_iload_n X d_S_hasFault_40 1 rfl rfl ?_
  refine b_dSN X cf_F_has ci_F_has mn_S_61 (ct_F_has G σ (Int32.toInt64 (xi σ 6 n38)) x1) (As := [.long (Int32.toInt64 (xi σ 6 n38)), .int x1]) (rest := []) rfl (Nat.le_of_ble_eq_true rfl) ⟨Nat.le_of_ble_eq_true rfl, Nat.le_of_ble_eq_true rfl⟩ ⟨Nat.le_of_ble_eq_true rfl, Nat.le_of_ble_eq_true rfl⟩ rfl rfl d_S_hasFault_41 ?_
  exact b_zret X z44 d_S_hasFault_44 ⟨rfl, rfl⟩
theorem ct_S_hasFault_tft (G : GG) (σ : St) (x1 : Int32) (x2 : Int32) (n21 : Nat) (c2 : ¬ x2 = 2) (c13 : x2 = 3) (e21 : x1 = nI n21) (h21 : n21 < 16) (c24 : ¬ (altC σ n21) = 0) : Ct y_S_hasFault c_S_hasFault 3 (some .boolean) rm_S_hasFault G [.ref (xa σ 5), .int x1, .int x2] (WC G σ) (eqp (some (.int 0)) (WC G σ)) := by
  refine Ct.of (by decide +kernel) (Nat.le_of_ble_eq_true rfl) (fun K X => ?_)
  show Lb K G _ _ 3 0 [(0, .ref (xa σ 5)), (1, .int x1), (2, .int x2)] [] _ 0 0
  refine b_iload_n X d_S_hasFault_0 2 rfl rfl ?_
  refine b_iconst X (v := 2) d_S_hasFault_1 (by decide) ?_
  refine b_icmp_ne X (tgt := 11) d_S_hasFault_2 (by decide) (fun _ => ?_) (fun h => absurd h c2)
  refine b_iload_n X d_S_hasFault_11 2 rfl rfl ?_
  refine b_iconst X (v := 3) d_S_hasFault_12 (by decide) ?_
  refine b_icmp_ne X (tgt := 33) d_S_hasFault_13 (by decide) (fun h => absurd c13 h) (fun _ => ?_)
  refine b_aload_n X d_S_hasFault_16 0 rfl rfl ?_
  refine b_get X fl_S_25 5 rfl (v := .ref (xa σ 1)) rfl d_S_hasFault_17 ?_
  refine b_iload_n X d_S_hasFault_20 1 rfl rfl ?_
  refine b_dV X cf_G_alternatives ci_G_alternatives ml_S_65 (ct_G_alternatives G σ x1 n21 e21 h21) 1 rfl rfl (As := [.int x1]) (rest := []) rfl (Nat.le_of_ble_eq_true rfl) ⟨Nat.le_of_ble_eq_true rfl, Nat.le_of_ble_eq_true rfl⟩ ⟨Nat.le_of_ble_eq_true rfl, Nat.le_of_ble_eq_true rfl⟩ rfl rfl d_S_hasFault_21 ?_
  refine b_if_ne X (tgt := 31) d_S_hasFault_24 (by decide) (fun _ => ?_) (fun h => absurd h c24)
  refine b_iconst X (v := 0) d_S_hasFault_31 (by decide) ?_
  exact b_zret X rfl d_S_hasFault_32 ⟨rfl, rfl⟩
theorem ct_S_hasFault_tff (G : GG) (σ : St) (x1 : Int32) (x2 : Int32) (n21 : Nat) (c2 : ¬ x2 = 2) (c13 : x2 = 3) (e21 : x1 = nI n21) (h21 : n21 < 16) (c24 : (altC σ n21) = 0) : Ct y_S_hasFault c_S_hasFault 3 (some .boolean) rm_S_hasFault G [.ref (xa σ 5), .int x1, .int x2] (WC G σ) (eqp (some (.int 1)) (WC G σ)) := by
  refine Ct.of (by decide +kernel) (Nat.le_of_ble_eq_true rfl) (fun K X => ?_)
  show Lb K G _ _ 3 0 [(0, .ref (xa σ 5)), (1, .int x1), (2, .int x2)] [] _ 0 0
  refine b_iload_n X d_S_hasFault_0 2 rfl rfl ?_
  refine b_iconst X (v := 2) d_S_hasFault_1 (by decide) ?_
  refine b_icmp_ne X (tgt := 11) d_S_hasFault_2 (by decide) (fun _ => ?_) (fun h => absurd h c2)
  refine b_iload_n X d_S_hasFault_11 2 rfl rfl ?_
  refine b_iconst X (v := 3) d_S_hasFault_12 (by decide) ?_
  refine b_icmp_ne X (tgt := 33) d_S_hasFault_13 (by decide) (fun h => absurd c13 h) (fun _ => ?_)
  refine b_aload_n X d_S_hasFault_16 0 rfl rfl ?_
  refine b_get X fl_S_25 5 rfl (v := .ref (xa σ 1)) rfl d_S_hasFault_17 ?_
  refine b_iload_n X d_S_hasFault_20 1 rfl rfl ?_
  refine b_dV X cf_G_alternatives ci_G_alternatives ml_S_65 (ct_G_alternatives G σ x1 n21 e21 h21) 1 rfl rfl (As := [.int x1]) (rest := []) rfl (Nat.le_of_ble_eq_true rfl) ⟨Nat.le_of_ble_eq_true rfl, Nat.le_of_ble_eq_true rfl⟩ ⟨Nat.le_of_ble_eq_true rfl, Nat.le_of_ble_eq_true rfl⟩ rfl rfl d_S_hasFault_21 ?_
  refine b_if_ne X (tgt := 31) d_S_hasFault_24 (by decide) (fun h => absurd c24 h) (fun _ => ?_)
  refine b_iconst X (v := 1) d_S_hasFault_27 (by decide) ?_
  refine b_goto X (tgt := 32) d_S_hasFault_28 (by decide) ?_
  exact b_zret X rfl d_S_hasFault_32 ⟨rfl, rfl⟩
theorem ct_S_hasFault_f (G : GG) (σ : St) (x1 : Int32) (x2 : Int32) (r7 : Int32) (c2 : x2 = 2) (t7 : Ct y_S_hasSymbolNotThere c_S_hasSymbolNotThere 5 (some .boolean) rm_S_hasSymbolNotThere G [.ref (xa σ 5), .int x1] (WC G σ) (eqp (some (.int r7)) (WC G σ))) (z10 : narrow .boolean (.int r7) = .int r7) : Ct y_S_hasFault c_S_hasFault 3 (some .boolean) rm_S_hasFault G [.ref (xa σ 5), .int x1, .int x2] (WC G σ) (eqp (some (.int r7)) (WC G σ)) := by
  refine Ct.of (by decide +kernel) (Nat.le_of_ble_eq_true rfl) (fun K X => ?_)
  show Lb K G _ _ 3 0 [(0, .ref (xa σ 5)), (1, .int x1), (2, .int x2)] [] _ 0 0
  refine b_iload_n X d_S_hasFault_0 2 rfl rfl ?_
  refine b_iconst X (v := 2) d_S_hasFault_1 (by decide) ?_
  refine b_icmp_ne X (tgt := 11) d_S_hasFault_2 (by decide) (fun h => absurd c2 h) (fun _ => ?_)
  refine b_aload_n X d_S_hasFault_5 0 rfl rfl ?_
  refine b_iload_n X d_S_hasFault_6 1 rfl rfl ?_
  refine b_dV X cf_S_hasSymbolNotThere ci_S_hasSymbolNotThere ml_S_109 t7 5 rfl rfl (As := [.int x1]) (rest := []) rfl (Nat.le_of_ble_eq_true rfl) ⟨Nat.le_of_ble_eq_true rfl, Nat.le_of_ble_eq_true rfl⟩ ⟨Nat.le_of_ble_eq_true rfl, Nat.le_of_ble_eq_true rfl⟩ rfl rfl d_S_hasFault_7 ?_
  exact b_zret X z10 d_S_hasFault_10 ⟨rfl, rfl⟩
theorem sg_S_hasSymbolNotThere_0_2 {K : KX} {G : GG} {w0 : va_W} {Q : State → Prop} (X : Bd K G w0 "FirstTrees$Study" c_S_hasSymbolNotThere 5 (some .boolean) rm_S_hasSymbolNotThere) (σ : St) (x1 : Int32)   (k : Lb K G w0 Q 5 2 [(0, .ref (xa σ 5)), (1, .int x1), (2, .int 0)] [] (WC G σ) 0 0) : Lb K G w0 Q 5 0 [(0, .ref (xa σ 5)), (1, .int x1)] [] (WC G σ) 0 0 := by
  refine b_iconst X (v := 0) d_S_hasSymbolNotThere_0 (by decide) ?_
  refine b_istore_n X (lv' := [(0, .ref (xa σ 5)), (1, .int x1), (2, .int 0)]) d_S_hasSymbolNotThere_1 rfl (by decide) [1, 2, 0] rfl ?_
  exact k
theorem sg_S_hasSymbolNotThere_2_tr {K : KX} {G : GG} {w0 : va_W} {post : PostT} (X : Bd K G w0 "FirstTrees$Study" c_S_hasSymbolNotThere 5 (some .boolean) rm_S_hasSymbolNotThere) (σ : St) (x1 : Int32) (x2 : Int32) (n8 : Nat) (e8 : x1 = nI n8) (h8 : n8 < 16) (c11 : (altC σ n8) ≤ x2) (hp : post (some (.int 0)) (WC G σ)) : Lb K G w0 (Qe K G w0 post rm_S_hasSymbolNotThere) 5 2 [(0, .ref (xa σ 5)), (1, .int x1), (2, .int x2)] [] (WC G σ) 0 0 := by
  refine b_iload_n X d_S_hasSymbolNotThere_2 2 rfl rfl ?_
  refine b_aload_n X d_S_hasSymbolNotThere_3 0 rfl rfl ?_
  refine b_get X fl_S_25 5 rfl (v := .ref (xa σ 1)) rfl d_S_hasSymbolNotThere_4 ?_
  refine b_iload_n X d_S_hasSymbolNotThere_7 1 rfl rfl ?_
  refine b_dV X cf_G_alternatives ci_G_alternatives ml_S_65 (ct_G_alternatives G σ x1 n8 e8 h8) 1 rfl rfl (As := [.int x1]) (rest := [.int x2]) rfl (Nat.le_of_ble_eq_true rfl) ⟨Nat.le_of_ble_eq_true rfl, Nat.le_of_ble_eq_true rfl⟩ ⟨Nat.le_of_ble_eq_true rfl, Nat.le_of_ble_eq_true rfl⟩ rfl rfl d_S_hasSymbolNotThere_8 ?_
  refine b_icmp_ge X (tgt := 73) d_S_hasSymbolNotThere_11 (by decide) (fun _ => ?_) (fun h => absurd c11 h)
  refine b_iconst X (v := 0) d_S_hasSymbolNotThere_73 (by decide) ?_
  exact b_zret X rfl d_S_hasSymbolNotThere_74 hp
theorem sg_S_hasSymbolNotThere_2_f23 {K : KX} {G : GG} {w0 : va_W} {Q : State → Prop} (X : Bd K G w0 "FirstTrees$Study" c_S_hasSymbolNotThere 5 (some .boolean) rm_S_hasSymbolNotThere) (σ : St) (x1 : Int32) (x2 : Int32) (n8 : Nat) (e8 : x1 = nI n8) (h8 : n8 < 16) (c11 : ¬ (altC σ n8) ≤ x2) (k : Lb K G w0 Q 5 23 [(0, .ref (xa σ 5)), (1, .int x1), (2, .int x2), (3, .int ((x1 * 8) + x2)), (4, .int 0)] [] (WC G σ) 0 0) : Lb K G w0 Q 5 2 [(0, .ref (xa σ 5)), (1, .int x1), (2, .int x2)] [] (WC G σ) 0 0 := by
  refine b_iload_n X d_S_hasSymbolNotThere_2 2 rfl rfl ?_
  refine b_aload_n X d_S_hasSymbolNotThere_3 0 rfl rfl ?_
  refine b_get X fl_S_25 5 rfl (v := .ref (xa σ 1)) rfl d_S_hasSymbolNotThere_4 ?_
  refine b_iload_n X d_S_hasSymbolNotThere_7 1 rfl rfl ?_
  refine b_dV X cf_G_alternatives ci_G_alternatives ml_S_65 (ct_G_alternatives G σ x1 n8 e8 h8) 1 rfl rfl (As := [.int x1]) (rest := [.int x2]) rfl (Nat.le_of_ble_eq_true rfl) ⟨Nat.le_of_ble_eq_true rfl, Nat.le_of_ble_eq_true rfl⟩ ⟨Nat.le_of_ble_eq_true rfl, Nat.le_of_ble_eq_true rfl⟩ rfl rfl d_S_hasSymbolNotThere_8 ?_
  refine b_icmp_ge X (tgt := 73) d_S_hasSymbolNotThere_11 (by decide) (fun h => absurd h c11) (fun _ => ?_)
  refine b_iload_n X d_S_hasSymbolNotThere_14 1 rfl rfl ?_
  refine b_iload_n X d_S_hasSymbolNotThere_15 2 rfl rfl ?_
  refine b_dS X cf_G_row ci_G_row ml_S_71 (ct_G_row_ G σ x1 x2) (As := [.int x1, .int x2]) (rest := []) rfl (Nat.le_of_ble_eq_true rfl) ⟨Nat.le_of_ble_eq_true rfl, Nat.le_of_ble_eq_true rfl⟩ ⟨Nat.le_of_ble_eq_true rfl, Nat.le_of_ble_eq_true rfl⟩ rfl rfl d_S_hasSymbolNotThere_16 ?_
  refine b_istore_n X (lv' := [(0, .ref (xa σ 5)), (1, .int x1), (2, .int x2), (3, .int ((x1 * 8) + x2))]) d_S_hasSymbolNotThere_19 rfl (by decide) [1, 2, 3, 0] rfl ?_
  refine b_iconst X (v := 0) d_S_hasSymbolNotThere_20 (by decide) ?_
  refine b_istore X (lv' := [(0, .ref (xa σ 5)), (1, .int x1), (2, .int x2), (3, .int ((x1 * 8) + x2)), (4, .int 0)]) d_S_hasSymbolNotThere_21 (by decide) [1, 2, 3, 4, 0] rfl ?_
  exact k
theorem sg_S_hasSymbolNotThere_23_t2 {K : KX} {G : GG} {w0 : va_W} {Q : State → Prop} (X : Bd K G w0 "FirstTrees$Study" c_S_hasSymbolNotThere 5 (some .boolean) rm_S_hasSymbolNotThere) (σ : St) (x1 : Int32) (x2 : Int32) (x3 : Int32) (x4 : Int32) (n30 : Nat) (e30 : x3 = nI n30) (h30 : n30 < 128) (c33 : (xi σ 3 n30) ≤ x4) (k : Lb K G w0 Q 5 2 [(0, .ref (xa σ 5)), (1, .int x1), (2, .int (x2 + 1))] [] (WC G σ) 0 0) : Lb K G w0 Q 5 23 [(0, .ref (xa σ 5)), (1, .int x1), (2, .int x2), (3, .int x3), (4, .int x4)] [] (WC G σ) 0 0 := by
  refine b_iload X d_S_hasSymbolNotThere_23 4 rfl ?_
  refine b_aload_n X d_S_hasSymbolNotThere_25 0 rfl rfl ?_
  refine b_get X fl_S_25 5 rfl (v := .ref (xa σ 1)) rfl d_S_hasSymbolNotThere_26 ?_
  refine b_iload_n X d_S_hasSymbolNotThere_29 3 rfl rfl ?_
  refine b_dV X cf_G_length ci_G_length ml_S_87 (ct_G_length_ G σ x3 n30 e30 h30) 1 rfl rfl (As := [.int x3]) (rest := [.int x4]) rfl (Nat.le_of_ble_eq_true rfl) ⟨Nat.le_of_ble_eq_true rfl, Nat.le_of_ble_eq_true rfl⟩ ⟨Nat.le_of_ble_eq_true rfl, Nat.le_of_ble_eq_true rfl⟩ rfl rfl d_S_hasSymbolNotThere_30 ?_
  refine b_icmp_ge X (tgt := 67) d_S_hasSymbolNotThere_33 (by decide) (fun _ => ?_) (fun h => absurd c33 h)
  refine b_iinc X (lv' := [(0, .ref (xa σ 5)), (1, .int x1), (2, .int (x2 + 1)), (3, .int x3), (4, .int x4)]) d_S_hasSymbolNotThere_67 2 rfl (v := (x2 + 1)) rfl (by decide) [1, 2, 0, 3, 4] rfl ?_
  refine b_goto X (tgt := 2) d_S_hasSymbolNotThere_70 (by decide) ?_
  refine Lb.pick (lv' := [(0, .ref (xa σ 5)), (1, .int x1), (2, .int (x2 + 1))]) [0, 1, 2] rfl ?_
  exact k
theorem sg_S_hasSymbolNotThere_23_ft23 {K : KX} {G : GG} {w0 : va_W} {Q : State → Prop} (X : Bd K G w0 "FirstTrees$Study" c_S_hasSymbolNotThere 5 (some .boolean) rm_S_hasSymbolNotThere) (σ : St) (x1 : Int32) (x2 : Int32) (x3 : Int32) (x4 : Int32) (n30 : Nat) (n43 : Nat) (e30 : x3 = nI n30) (h30 : n30 < 128) (c33 : ¬ (xi σ 3 n30) ≤ x4) (e43 : ((x3 * 8) + x4) = nI n43) (h43 : n43 < 1024) (c56 : ((-1) - (xi σ 4 n43)) < (xi σ 1 0)) (k : Lb K G w0 Q 5 23 [(0, .ref (xa σ 5)), (1, .int x1), (2, .int x2), (3, .int x3), (4, .int (x4 + 1))] [] (WC G σ) 0 0) : Lb K G w0 Q 5 23 [(0, .ref (xa σ 5)), (1, .int x1), (2, .int x2), (3, .int x3), (4, .int x4)] [] (WC G σ) 0 0 := by
  refine b_iload X d_S_hasSymbolNotThere_23 4 rfl ?_
  refine b_aload_n X d_S_hasSymbolNotThere_25 0 rfl rfl ?_
  refine b_get X fl_S_25 5 rfl (v := .ref (xa σ 1)) rfl d_S_hasSymbolNotThere_26 ?_
  refine b_iload_n X d_S_hasSymbolNotThere_29 3 rfl rfl ?_
  refine b_dV X cf_G_length ci_G_length ml_S_87 (ct_G_length_ G σ x3 n30 e30 h30) 1 rfl rfl (As := [.int x3]) (rest := [.int x4]) rfl (Nat.le_of_ble_eq_true rfl) ⟨Nat.le_of_ble_eq_true rfl, Nat.le_of_ble_eq_true rfl⟩ ⟨Nat.le_of_ble_eq_true rfl, Nat.le_of_ble_eq_true rfl⟩ rfl rfl d_S_hasSymbolNotThere_30 ?_
  refine b_icmp_ge X (tgt := 67) d_S_hasSymbolNotThere_33 (by decide) (fun h => absurd h c33) (fun _ => ?_)
  refine b_aload_n X d_S_hasSymbolNotThere_36 0 rfl rfl ?_
  refine b_get X fl_S_25 5 rfl (v := .ref (xa σ 1)) rfl d_S_hasSymbolNotThere_37 ?_
  refine b_iload_n X d_S_hasSymbolNotThere_40 3 rfl rfl ?_
  refine b_iload X d_S_hasSymbolNotThere_41 4 rfl ?_
  refine b_dV X cf_G_symbolAt ci_G_symbolAt ml_S_90 (ct_G_symbolAt_ G σ x3 x4 n43 e43 h43) 1 rfl rfl (As := [.int x3, .int x4]) (rest := []) rfl (Nat.le_of_ble_eq_true rfl) ⟨Nat.le_of_ble_eq_true rfl, Nat.le_of_ble_eq_true rfl⟩ ⟨Nat.le_of_ble_eq_true rfl, Nat.le_of_ble_eq_true rfl⟩ rfl rfl d_S_hasSymbolNotThere_43 ?_
  refine b_dS X cf_G_ruleOf ci_G_ruleOf ml_S_99 (ct_G_ruleOf_ G σ (xi σ 4 n43)) (As := [.int (xi σ 4 n43)]) (rest := []) rfl (Nat.le_of_ble_eq_true rfl) ⟨Nat.le_of_ble_eq_true rfl, Nat.le_of_ble_eq_true rfl⟩ ⟨Nat.le_of_ble_eq_true rfl, Nat.le_of_ble_eq_true rfl⟩ rfl rfl d_S_hasSymbolNotThere_46 ?_
  refine b_aload_n X d_S_hasSymbolNotThere_49 0 rfl rfl ?_
  refine b_get X fl_S_25 5 rfl (v := .ref (xa σ 1)) rfl d_S_hasSymbolNotThere_50 ?_
  refine b_dV X cf_G_rules ci_G_rules ml_S_83 (ct_G_rules_ G σ ) 1 rfl rfl (As := []) (rest := [.int ((-1) - (xi σ 4 n43))]) rfl (Nat.le_of_ble_eq_true rfl) ⟨Nat.le_of_ble_eq_true rfl, Nat.le_of_ble_eq_true rfl⟩ ⟨Nat.le_of_ble_eq_true rfl, Nat.le_of_ble_eq_true rfl⟩ rfl rfl d_S_hasSymbolNotThere_53 ?_
  refine b_icmp_lt X (tgt := 61) d_S_hasSymbolNotThere_56 (by decide) (fun _ => ?_) (fun h => absurd c56 h)
  refine b_iinc X (lv' := [(0, .ref (xa σ 5)), (1, .int x1), (2, .int x2), (3, .int x3), (4, .int (x4 + 1))]) d_S_hasSymbolNotThere_61 4 rfl (v := (x4 + 1)) rfl (by decide) [1, 2, 3, 4, 0] rfl ?_
  refine b_goto X (tgt := 23) d_S_hasSymbolNotThere_64 (by decide) ?_
  exact k
theorem sg_S_hasSymbolNotThere_23_ffr {K : KX} {G : GG} {w0 : va_W} {post : PostT} (X : Bd K G w0 "FirstTrees$Study" c_S_hasSymbolNotThere 5 (some .boolean) rm_S_hasSymbolNotThere) (σ : St) (x1 : Int32) (x2 : Int32) (x3 : Int32) (x4 : Int32) (n30 : Nat) (n43 : Nat) (e30 : x3 = nI n30) (h30 : n30 < 128) (c33 : ¬ (xi σ 3 n30) ≤ x4) (e43 : ((x3 * 8) + x4) = nI n43) (h43 : n43 < 1024) (c56 : ¬ ((-1) - (xi σ 4 n43)) < (xi σ 1 0)) (hp : post (some (.int 1)) (WC G σ)) : Lb K G w0 (Qe K G w0 post rm_S_hasSymbolNotThere) 5 23 [(0, .ref (xa σ 5)), (1, .int x1), (2, .int x2), (3, .int x3), (4, .int x4)] [] (WC G σ) 0 0 := by
  refine b_iload X d_S_hasSymbolNotThere_23 4 rfl ?_
  refine b_aload_n X d_S_hasSymbolNotThere_25 0 rfl rfl ?_
  refine b_get X fl_S_25 5 rfl (v := .ref (xa σ 1)) rfl d_S_hasSymbolNotThere_26 ?_
  refine b_iload_n X d_S_hasSymbolNotThere_29 3 rfl rfl ?_
  refine b_dV X cf_G_length ci_G_length ml_S_87 (ct_G_length_ G σ x3 n30 e30 h30) 1 rfl rfl (As := [.int x3]) (rest := [.int x4]) rfl (Nat.le_of_ble_eq_true rfl) ⟨Nat.le_of_ble_eq_true rfl, Nat.le_of_ble_eq_true rfl⟩ ⟨Nat.le_of_ble_eq_true rfl, Nat.le_of_ble_eq_true rfl⟩ rfl rfl d_S_hasSymbolNotThere_30 ?_
  refine b_icmp_ge X (tgt := 67) d_S_hasSymbolNotThere_33 (by decide) (fun h => absurd h c33) (fun _ => ?_)
  refine b_aload_n X d_S_hasSymbolNotThere_36 0 rfl rfl ?_
  refine b_get X fl_S_25 5 rfl (v := .ref (xa σ 1)) rfl d_S_hasSymbolNotThere_37 ?_
  refine b_iload_n X d_S_hasSymbolNotThere_40 3 rfl rfl ?_
  refine b_iload X d_S_hasSymbolNotThere_41 4 rfl ?_
  refine b_dV X cf_G_symbolAt ci_G_symbolAt ml_S_90 (ct_G_symbolAt_ G σ x3 x4 n43 e43 h43) 1 rfl rfl (As := [.int x3, .int x4]) (rest := []) rfl (Nat.le_of_ble_eq_true rfl) ⟨Nat.le_of_ble_eq_true rfl, Nat.le_of_ble_eq_true rfl⟩ ⟨Nat.le_of_ble_eq_true rfl, Nat.le_of_ble_eq_true rfl⟩ rfl rfl d_S_hasSymbolNotThere_43 ?_
  refine b_dS X cf_G_ruleOf ci_G_ruleOf ml_S_99 (ct_G_ruleOf_ G σ (xi σ 4 n43)) (As := [.int (xi σ 4 n43)]) (rest := []) rfl (Nat.le_of_ble_eq_true rfl) ⟨Nat.le_of_ble_eq_true rfl, Nat.le_of_ble_eq_true rfl⟩ ⟨Nat.le_of_ble_eq_true rfl, Nat.le_of_ble_eq_true rfl⟩ rfl rfl d_S_hasSymbolNotThere_46 ?_
  refine b_aload_n X d_S_hasSymbolNotThere_49 0 rfl rfl ?_
  refine b_get X fl_S_25 5 rfl (v := .ref (xa σ 1)) rfl d_S_hasSymbolNotThere_50 ?_
  refine b_dV X cf_G_rules ci_G_rules ml_S_83 (ct_G_rules_ G σ ) 1 rfl rfl (As := []) (rest := [.int ((-1) - (xi σ 4 n43))]) rfl (Nat.le_of_ble_eq_true rfl) ⟨Nat.le_of_ble_eq_true rfl, Nat.le_of_ble_eq_true rfl⟩ ⟨Nat.le_of_ble_eq_true rfl, Nat.le_of_ble_eq_true rfl⟩ rfl rfl d_S_hasSymbolNotThere_53 ?_
  refine b_icmp_lt X (tgt := 61) d_S_hasSymbolNotThere_56 (by decide) (fun h => absurd h c56) (fun _ => ?_)
  refine b_iconst X (v := 1) d_S_hasSymbolNotThere_59 (by decide) ?_
  exact b_zret X rfl d_S_hasSymbolNotThere_60 hp
theorem sg_S_findFirsts_0_2 {K : KX} {G : GG} {w0 : va_W} {Q : State → Prop} (X : Bd K G w0 "FirstTrees$Study" c_S_findFirsts 6 none rm_S_findFirsts) (σ : St)    (k : Lb K G w0 Q 6 2 [(0, .ref (xa σ 5)), (1, .int 0)] [] (WC G σ) 0 0) : Lb K G w0 Q 6 0 [(0, .ref (xa σ 5))] [] (WC G σ) 0 0 := by
  refine b_iconst X (v := 0) d_S_findFirsts_0 (by decide) ?_
  refine b_istore_n X (lv' := [(0, .ref (xa σ 5)), (1, .int 0)]) d_S_findFirsts_1 rfl (by decide) [1, 0] rfl ?_
  exact k
theorem sg_S_findFirsts_2_tr {K : KX} {G : GG} {w0 : va_W} {post : PostT} (X : Bd K G w0 "FirstTrees$Study" c_S_findFirsts 6 none rm_S_findFirsts) (σ : St) (x1 : Int32)  (c10 : (xi σ 1 0) ≤ x1) (hp : post none (WC G σ)) : Lb K G w0 (Qe K G w0 post rm_S_findFirsts) 6 2 [(0, .ref (xa σ 5)), (1, .int x1)] [] (WC G σ) 0 0 := by
  refine b_iload_n X d_S_findFirsts_2 1 rfl rfl ?_
  refine b_aload_n X d_S_findFirsts_3 0 rfl rfl ?_
  refine b_get X fl_S_25 5 rfl (v := .ref (xa σ 1)) rfl d_S_findFirsts_4 ?_
  refine b_dV X cf_G_rules ci_G_rules ml_S_83 (ct_G_rules_ G σ ) 1 rfl rfl (As := []) (rest := [.int x1]) rfl (Nat.le_of_ble_eq_true rfl) ⟨Nat.le_of_ble_eq_true rfl, Nat.le_of_ble_eq_true rfl⟩ ⟨Nat.le_of_ble_eq_true rfl, Nat.le_of_ble_eq_true rfl⟩ rfl rfl d_S_findFirsts_7 ?_
  refine b_icmp_ge X (tgt := 70) d_S_findFirsts_10 (by decide) (fun _ => ?_) (fun h => absurd c10 h)
  exact b_vret X d_S_findFirsts_70 hp
theorem sg_S_findFirsts_2_f25 {K : KX} {G : GG} {w0 : va_W} {Q : State → Prop} (X : Bd K G w0 "FirstTrees$Study" c_S_findFirsts 6 none rm_S_findFirsts) (σ : St) (x1 : Int32) (n18 : Nat) (c10 : ¬ (xi σ 1 0) ≤ x1) (e18 : x1 = nI n18) (h18 : n18 < 16) (k : Lb K G w0 Q 6 25 [(0, .ref (xa σ 5)), (1, .int x1), (2, .int (xi σ 7 n18)), (3, .long 0), (5, .int 0)] [] (WC G σ) 0 0) : Lb K G w0 Q 6 2 [(0, .ref (xa σ 5)), (1, .int x1)] [] (WC G σ) 0 0 := by
  refine b_iload_n X d_S_findFirsts_2 1 rfl rfl ?_
  refine b_aload_n X d_S_findFirsts_3 0 rfl rfl ?_
  refine b_get X fl_S_25 5 rfl (v := .ref (xa σ 1)) rfl d_S_findFirsts_4 ?_
  refine b_dV X cf_G_rules ci_G_rules ml_S_83 (ct_G_rules_ G σ ) 1 rfl rfl (As := []) (rest := [.int x1]) rfl (Nat.le_of_ble_eq_true rfl) ⟨Nat.le_of_ble_eq_true rfl, Nat.le_of_ble_eq_true rfl⟩ ⟨Nat.le_of_ble_eq_true rfl, Nat.le_of_ble_eq_true rfl⟩ rfl rfl d_S_findFirsts_7 ?_
  refine b_icmp_ge X (tgt := 70) d_S_findFirsts_10 (by decide) (fun h => absurd h c10) (fun _ => ?_)
  refine b_aload_n X d_S_findFirsts_13 0 rfl rfl ?_
  refine b_get X fl_S_15 5 rfl (v := .ref (xa σ 7)) rfl d_S_findFirsts_14 ?_
  refine b_iload_n X d_S_findFirsts_17 1 rfl rfl ?_
  refine b_iald X 7 rfl (by decide) n18 e18 h18 d_S_findFirsts_18 ?_
  refine b_istore_n X (lv' := [(0, .ref (xa σ 5)), (1, .int x1), (2, .int (xi σ 7 n18))]) d_S_findFirsts_19 rfl (by decide) [1, 2, 0] rfl ?_
  refine b_lconst X (v := 0) d_S_findFirsts_20 rfl ?_
  refine b_lstore_n X (lv' := [(0, .ref (xa σ 5)), (1, .int x1), (2, .int (xi σ 7 n18)), (3, .long 0)]) d_S_findFirsts_21 rfl (by decide) [1, 2, 3, 0] rfl ?_
  refine b_iconst X (v := 0) d_S_findFirsts_22 (by decide) ?_
  refine b_istore X (lv' := [(0, .ref (xa σ 5)), (1, .int x1), (2, .int (xi σ 7 n18)), (3, .long 0), (5, .int 0)]) d_S_findFirsts_23 (by decide) [1, 2, 3, 4, 0] rfl ?_
  exact k
theorem sg_S_findFirsts_25_t2 {K : KX} {G : GG} {w0 : va_W} {Q : State → Prop} (X : Bd K G w0 "FirstTrees$Study" c_S_findFirsts 6 none rm_S_findFirsts) (σ : St) (x1 : Int32) (x2 : Int32) (x3 : Int64) (x5 : Int32) (n32 : Nat) (e32 : x2 = nI n32) (h32 : n32 < 16) (c35 : (altC σ n32) ≤ x5) (k : Lb K G w0 Q 6 2 [(0, .ref (xa σ 5)), (1, .int (x1 + 1))] [] (WC G (wl σ 8 n32 x3)) 0 0) : Lb K G w0 Q 6 25 [(0, .ref (xa σ 5)), (1, .int x1), (2, .int x2), (3, .long x3), (5, .int x5)] [] (WC G σ) 0 0 := by
  refine b_iload X d_S_findFirsts_25 4 rfl ?_
  refine b_aload_n X d_S_findFirsts_27 0 rfl rfl ?_
  refine b_get X fl_S_25 5 rfl (v := .ref (xa σ 1)) rfl d_S_findFirsts_28 ?_
  refine b_iload_n X d_S_findFirsts_31 2 rfl rfl ?_
  refine b_dV X cf_G_alternatives ci_G_alternatives ml_S_65 (ct_G_alternatives G σ x2 n32 e32 h32) 1 rfl rfl (As := [.int x2]) (rest := [.int x5]) rfl (Nat.le_of_ble_eq_true rfl) ⟨Nat.le_of_ble_eq_true rfl, Nat.le_of_ble_eq_true rfl⟩ ⟨Nat.le_of_ble_eq_true rfl, Nat.le_of_ble_eq_true rfl⟩ rfl rfl d_S_findFirsts_32 ?_
  refine b_icmp_ge X (tgt := 57) d_S_findFirsts_35 (by decide) (fun _ => ?_) (fun h => absurd c35 h)
  refine b_aload_n X d_S_findFirsts_57 0 rfl rfl ?_
  refine b_get X fl_S_18 5 rfl (v := .ref (xa σ 8)) rfl d_S_findFirsts_58 ?_
  refine b_iload_n X d_S_findFirsts_61 2 rfl rfl ?_
  refine b_lload_n X d_S_findFirsts_62 3 rfl rfl ?_
  refine b_last X 8 rfl (by decide) n32 e32 h32 (uWC_8 G σ n32 x3) d_S_findFirsts_63 ?_
  refine b_iinc X (lv' := [(0, .ref (xa σ 5)), (1, .int (x1 + 1)), (2, .int x2), (3, .long x3), (5, .int x5)]) d_S_findFirsts_64 1 rfl (v := (x1 + 1)) rfl (by decide) [1, 0, 2, 3, 4] rfl ?_
  refine b_goto X (tgt := 2) d_S_findFirsts_67 (by decide) ?_
  refine Lb.pick (lv' := [(0, .ref (xa σ 5)), (1, .int (x1 + 1))]) [0, 1] rfl ?_
  exact k
theorem sg_S_findFirsts_25_f25 {K : KX} {G : GG} {w0 : va_W} {Q : State → Prop} (X : Bd K G w0 "FirstTrees$Study" c_S_findFirsts 6 none rm_S_findFirsts) (σ : St) (x1 : Int32) (x2 : Int32) (x3 : Int64) (x5 : Int32) (n32 : Nat) (r46 : Int64) (e32 : x2 = nI n32) (h32 : n32 < 16) (c35 : ¬ (altC σ n32) ≤ x5) (t46 : Ct y_S_rowFirst c_S_rowFirst 6 (some .long) rm_S_rowFirst G [.ref (xa σ 5), .int ((x2 * 8) + x5)] (WC G σ) (eqp (some (.long r46)) (WC G σ))) (k : Lb K G w0 Q 6 25 [(0, .ref (xa σ 5)), (1, .int x1), (2, .int x2), (3, .long (x3 ||| r46)), (5, .int (x5 + 1))] [] (WC G σ) 0 0) : Lb K G w0 Q 6 25 [(0, .ref (xa σ 5)), (1, .int x1), (2, .int x2), (3, .long x3), (5, .int x5)] [] (WC G σ) 0 0 := by
  refine b_iload X d_S_findFirsts_25 4 rfl ?_
  refine b_aload_n X d_S_findFirsts_27 0 rfl rfl ?_
  refine b_get X fl_S_25 5 rfl (v := .ref (xa σ 1)) rfl d_S_findFirsts_28 ?_
  refine b_iload_n X d_S_findFirsts_31 2 rfl rfl ?_
  refine b_dV X cf_G_alternatives ci_G_alternatives ml_S_65 (ct_G_alternatives G σ x2 n32 e32 h32) 1 rfl rfl (As := [.int x2]) (rest := [.int x5]) rfl (Nat.le_of_ble_eq_true rfl) ⟨Nat.le_of_ble_eq_true rfl, Nat.le_of_ble_eq_true rfl⟩ ⟨Nat.le_of_ble_eq_true rfl, Nat.le_of_ble_eq_true rfl⟩ rfl rfl d_S_findFirsts_32 ?_
  refine b_icmp_ge X (tgt := 57) d_S_findFirsts_35 (by decide) (fun h => absurd h c35) (fun _ => ?_)
  refine b_lload_n X d_S_findFirsts_38 3 rfl rfl ?_
  refine b_aload_n X d_S_findFirsts_39 0 rfl rfl ?_
  refine b_iload_n X d_S_findFirsts_40 2 rfl rfl ?_
  refine b_iload X d_S_findFirsts_41 4 rfl ?_
  refine b_dS X cf_G_row ci_G_row ml_S_71 (ct_G_row_ G σ x2 x5) (As := [.int x2, .int x5]) (rest := [.ref (xa σ 5), .long x3]) rfl (Nat.le_of_ble_eq_true rfl) ⟨Nat.le_of_ble_eq_true rfl, Nat.le_of_ble_eq_true rfl⟩ ⟨Nat.le_of_ble_eq_true rfl, Nat.le_of_ble_eq_true rfl⟩ rfl rfl d_S_findFirsts_43 ?_
  refine b_dV X cf_S_rowFirst ci_S_rowFirst ml_S_75 t46 5 rfl rfl (As := [.int ((x2 * 8) + x5)]) (rest := [.long x3]) rfl (Nat.le_of_ble_eq_true rfl) ⟨Nat.le_of_ble_eq_true rfl, Nat.le_of_ble_eq_true rfl⟩ ⟨Nat.le_of_ble_eq_true rfl, Nat.le_of_ble_eq_true rfl⟩ rfl rfl d_S_findFirsts_46 ?_
  refine b_lor X d_S_findFirsts_49 ?_
  refine b_lstore_n X (lv' := [(0, .ref (xa σ 5)), (1, .int x1), (2, .int x2), (3, .long (x3 ||| r46)), (5, .int x5)]) d_S_findFirsts_50 rfl (by decide) [1, 2, 3, 0, 4] rfl ?_
  refine b_iinc X (lv' := [(0, .ref (xa σ 5)), (1, .int x1), (2, .int x2), (3, .long (x3 ||| r46)), (5, .int (x5 + 1))]) d_S_findFirsts_51 4 rfl (v := (x5 + 1)) rfl (by decide) [1, 2, 3, 4, 0] rfl ?_
  refine b_goto X (tgt := 25) d_S_findFirsts_54 (by decide) ?_
  exact k
theorem sg_S_rowFirst_0_5 {K : KX} {G : GG} {w0 : va_W} {Q : State → Prop} (X : Bd K G w0 "FirstTrees$Study" c_S_rowFirst 6 (some .long) rm_S_rowFirst) (σ : St) (x1 : Int32)   (k : Lb K G w0 Q 6 5 [(0, .ref (xa σ 5)), (1, .int x1), (2, .long 0), (4, .int 0)] [] (WC G σ) 0 0) : Lb K G w0 Q 6 0 [(0, .ref (xa σ 5)), (1, .int x1)] [] (WC G σ) 0 0 := by
  refine b_lconst X (v := 0) d_S_rowFirst_0 rfl ?_
  refine b_lstore_n X (lv' := [(0, .ref (xa σ 5)), (1, .int x1), (2, .long 0)]) d_S_rowFirst_1 rfl (by decide) [1, 2, 0] rfl ?_
  refine b_iconst X (v := 0) d_S_rowFirst_2 (by decide) ?_
  refine b_istore X (lv' := [(0, .ref (xa σ 5)), (1, .int x1), (2, .long 0), (4, .int 0)]) d_S_rowFirst_3 (by decide) [1, 2, 3, 0] rfl ?_
  exact k
theorem sg_S_rowFirst_5_tr {K : KX} {G : GG} {w0 : va_W} {post : PostT} (X : Bd K G w0 "FirstTrees$Study" c_S_rowFirst 6 (some .long) rm_S_rowFirst) (σ : St) (x1 : Int32) (x2 : Int64) (x4 : Int32) (n12 : Nat) (e12 : x1 = nI n12) (h12 : n12 < 128) (c15 : (xi σ 3 n12) ≤ x4) (hp : post (some (.long x2)) (WC G σ)) : Lb K G w0 (Qe K G w0 post rm_S_rowFirst) 6 5 [(0, .ref (xa σ 5)), (1, .int x1), (2, .long x2), (4, .int x4)] [] (WC G σ) 0 0 := by
  refine b_iload X d_S_rowFirst_5 3 rfl ?_
  refine b_aload_n X d_S_rowFirst_7 0 rfl rfl ?_
  refine b_get X fl_S_25 5 rfl (v := .ref (xa σ 1)) rfl d_S_rowFirst_8 ?_
  refine b_iload_n X d_S_rowFirst_11 1 rfl rfl ?_
  refine b_dV X cf_G_length ci_G_length ml_S_87 (ct_G_length_ G σ x1 n12 e12 h12) 1 rfl rfl (As := [.int x1]) (rest := [.int x4]) rfl (Nat.le_of_ble_eq_true rfl) ⟨Nat.le_of_ble_eq_true rfl, Nat.le_of_ble_eq_true rfl⟩ ⟨Nat.le_of_ble_eq_true rfl, Nat.le_of_ble_eq_true rfl⟩ rfl rfl d_S_rowFirst_12 ?_
  refine b_icmp_ge X (tgt := 57) d_S_rowFirst_15 (by decide) (fun _ => ?_) (fun h => absurd c15 h)
  refine b_lload_n X d_S_rowFirst_57 2 rfl rfl ?_
  exact b_lret X d_S_rowFirst_58 hp
theorem sg_S_rowFirst_5_ft5 {K : KX} {G : GG} {w0 : va_W} {Q : State → Prop} (X : Bd K G w0 "FirstTrees$Study" c_S_rowFirst 6 (some .long) rm_S_rowFirst) (σ : St) (x1 : Int32) (x2 : Int64) (x4 : Int32) (n12 : Nat) (n25 : Nat) (r34 : Int64) (r42 : Int32) (e12 : x1 = nI n12) (h12 : n12 < 128) (c15 : ¬ (xi σ 3 n12) ≤ x4) (e25 : ((x1 * 8) + x4) = nI n25) (h25 : n25 < 1024) (t34 : Ct y_S_symbolFirst c_S_symbolFirst 2 (some .long) rm_S_symbolFirst G [.ref (xa σ 5), .int (xi σ 4 n25)] (WC G σ) (eqp (some (.long r34)) (WC G σ))) (t42 : Ct y_S_symbolIsNothing c_S_symbolIsNothing 2 (some .boolean) rm_S_symbolIsNothing G [.ref (xa σ 5), .int (xi σ 4 n25)] (WC G σ) (eqp (some (.int r42)) (WC G σ))) (c45 : ¬ r42 = 0) (k : Lb K G w0 Q 6 5 [(0, .ref (xa σ 5)), (1, .int x1), (2, .long (x2 ||| r34)), (4, .int (x4 + 1))] [] (WC G σ) 0 0) : Lb K G w0 Q 6 5 [(0, .ref (xa σ 5)), (1, .int x1), (2, .long x2), (4, .int x4)] [] (WC G σ) 0 0 := by
  refine b_iload X d_S_rowFirst_5 3 rfl ?_
  refine b_aload_n X d_S_rowFirst_7 0 rfl rfl ?_
  refine b_get X fl_S_25 5 rfl (v := .ref (xa σ 1)) rfl d_S_rowFirst_8 ?_
  refine b_iload_n X d_S_rowFirst_11 1 rfl rfl ?_
  refine b_dV X cf_G_length ci_G_length ml_S_87 (ct_G_length_ G σ x1 n12 e12 h12) 1 rfl rfl (As := [.int x1]) (rest := [.int x4]) rfl (Nat.le_of_ble_eq_true rfl) ⟨Nat.le_of_ble_eq_true rfl, Nat.le_of_ble_eq_true rfl⟩ ⟨Nat.le_of_ble_eq_true rfl, Nat.le_of_ble_eq_true rfl⟩ rfl rfl d_S_rowFirst_12 ?_
  refine b_icmp_ge X (tgt := 57) d_S_rowFirst_15 (by decide) (fun h => absurd h c15) (fun _ => ?_)
  refine b_aload_n X d_S_rowFirst_18 0 rfl rfl ?_
  refine b_get X fl_S_25 5 rfl (v := .ref (xa σ 1)) rfl d_S_rowFirst_19 ?_
  refine b_iload_n X d_S_rowFirst_22 1 rfl rfl ?_
  refine b_iload X d_S_rowFirst_23 3 rfl ?_
  refine b_dV X cf_G_symbolAt ci_G_symbolAt ml_S_90 (ct_G_symbolAt_ G σ x1 x4 n25 e25 h25) 1 rfl rfl (As := [.int x1, .int x4]) (rest := []) rfl (Nat.le_of_ble_eq_true rfl) ⟨Nat.le_of_ble_eq_true rfl, Nat.le_of_ble_eq_true rfl⟩ ⟨Nat.le_of_ble_eq_true rfl, Nat.le_of_ble_eq_true rfl⟩ rfl rfl d_S_rowFirst_25 ?_
  refine b_istore X (lv' := [(0, .ref (xa σ 5)), (1, .int x1), (2, .long x2), (4, .int x4), (5, .int (xi σ 4 n25))]) d_S_rowFirst_28 (by decide) [1, 2, 3, 4, 0] rfl ?_
  refine b_lload_n X d_S_rowFirst_30 2 rfl rfl ?_
  refine b_aload_n X d_S_rowFirst_31 0 rfl rfl ?_
  refine b_iload X d_S_rowFirst_32 4 rfl ?_
  refine b_dV X cf_S_symbolFirst ci_S_symbolFirst ml_S_117 t34 5 rfl rfl (As := [.int (xi σ 4 n25)]) (rest := [.long x2]) rfl (Nat.le_of_ble_eq_true rfl) ⟨Nat.le_of_ble_eq_true rfl, Nat.le_of_ble_eq_true rfl⟩ ⟨Nat.le_of_ble_eq_true rfl, Nat.le_of_ble_eq_true rfl⟩ rfl rfl d_S_rowFirst_34 ?_
  refine b_lor X d_S_rowFirst_37 ?_
  refine b_lstore_n X (lv' := [(0, .ref (xa σ 5)), (1, .int x1), (2, .long (x2 ||| r34)), (4, .int x4), (5, .int (xi σ 4 n25))]) d_S_rowFirst_38 rfl (by decide) [1, 2, 0, 3, 4] rfl ?_
  refine b_aload_n X d_S_rowFirst_39 0 rfl rfl ?_
  refine b_iload X d_S_rowFirst_40 4 rfl ?_
  refine b_dV X cf_S_symbolIsNothing ci_S_symbolIsNothing ml_S_93 t42 5 rfl rfl (As := [.int (xi σ 4 n25)]) (rest := []) rfl (Nat.le_of_ble_eq_true rfl) ⟨Nat.le_of_ble_eq_true rfl, Nat.le_of_ble_eq_true rfl⟩ ⟨Nat.le_of_ble_eq_true rfl, Nat.le_of_ble_eq_true rfl⟩ rfl rfl d_S_rowFirst_42 ?_
  refine b_if_ne X (tgt := 51) d_S_rowFirst_45 (by decide) (fun _ => ?_) (fun h => absurd h c45)
  refine b_iinc X (lv' := [(0, .ref (xa σ 5)), (1, .int x1), (2, .long (x2 ||| r34)), (4, .int (x4 + 1)), (5, .int (xi σ 4 n25))]) d_S_rowFirst_51 3 rfl (v := (x4 + 1)) rfl (by decide) [1, 2, 3, 0, 4] rfl ?_
  refine b_goto X (tgt := 5) d_S_rowFirst_54 (by decide) ?_
  refine Lb.pick (lv' := [(0, .ref (xa σ 5)), (1, .int x1), (2, .long (x2 ||| r34)), (4, .int (x4 + 1))]) [0, 1, 2, 3] rfl ?_
  exact k
theorem sg_S_rowFirst_5_ffr {K : KX} {G : GG} {w0 : va_W} {post : PostT} (X : Bd K G w0 "FirstTrees$Study" c_S_rowFirst 6 (some .long) rm_S_rowFirst) (σ : St) (x1 : Int32) (x2 : Int64) (x4 : Int32) (n12 : Nat) (n25 : Nat) (r34 : Int64) (r42 : Int32) (e12 : x1 = nI n12) (h12 : n12 < 128) (c15 : ¬ (xi σ 3 n12) ≤ x4) (e25 : ((x1 * 8) + x4) = nI n25) (h25 : n25 < 1024) (t34 : Ct y_S_symbolFirst c_S_symbolFirst 2 (some .long) rm_S_symbolFirst G [.ref (xa σ 5), .int (xi σ 4 n25)] (WC G σ) (eqp (some (.long r34)) (WC G σ))) (t42 : Ct y_S_symbolIsNothing c_S_symbolIsNothing 2 (some .boolean) rm_S_symbolIsNothing G [.ref (xa σ 5), .int (xi σ 4 n25)] (WC G σ) (eqp (some (.int r42)) (WC G σ))) (c45 : r42 = 0) (hp : post (some (.long (x2 ||| r34))) (WC G σ)) : Lb K G w0 (Qe K G w0 post rm_S_rowFirst) 6 5 [(0, .ref (xa σ 5)), (1, .int x1), (2, .long x2), (4, .int x4)] [] (WC G σ) 0 0 := by
  refine b_iload X d_S_rowFirst_5 3 rfl ?_
  refine b_aload_n X d_S_rowFirst_7 0 rfl rfl ?_
  refine b_get X fl_S_25 5 rfl (v := .ref (xa σ 1)) rfl d_S_rowFirst_8 ?_
  refine b_iload_n X d_S_rowFirst_11 1 rfl rfl ?_
  refine b_dV X cf_G_length ci_G_length ml_S_87 (ct_G_length_ G σ x1 n12 e12 h12) 1 rfl rfl (As := [.int x1]) (rest := [.int x4]) rfl (Nat.le_of_ble_eq_true rfl) ⟨Nat.le_of_ble_eq_true rfl, Nat.le_of_ble_eq_true rfl⟩ ⟨Nat.le_of_ble_eq_true rfl, Nat.le_of_ble_eq_true rfl⟩ rfl rfl d_S_rowFirst_12 ?_
  refine b_icmp_ge X (tgt := 57) d_S_rowFirst_15 (by decide) (fun h => absurd h c15) (fun _ => ?_)
  refine b_aload_n X d_S_rowFirst_18 0 rfl rfl ?_
  refine b_get X fl_S_25 5 rfl (v := .ref (xa σ 1)) rfl d_S_rowFirst_19 ?_
  refine b_iload_n X d_S_rowFirst_22 1 rfl rfl ?_
  refine b_iload X d_S_rowFirst_23 3 rfl ?_
  refine b_dV X cf_G_symbolAt ci_G_symbolAt ml_S_90 (ct_G_symbolAt_ G σ x1 x4 n25 e25 h25) 1 rfl rfl (As := [.int x1, .int x4]) (rest := []) rfl (Nat.le_of_ble_eq_true rfl) ⟨Nat.le_of_ble_eq_true rfl, Nat.le_of_ble_eq_true rfl⟩ ⟨Nat.le_of_ble_eq_true rfl, Nat.le_of_ble_eq_true rfl⟩ rfl rfl d_S_rowFirst_25 ?_
  refine b_istore X (lv' := [(0, .ref (xa σ 5)), (1, .int x1), (2, .long x2), (4, .int x4), (5, .int (xi σ 4 n25))]) d_S_rowFirst_28 (by decide) [1, 2, 3, 4, 0] rfl ?_
  refine b_lload_n X d_S_rowFirst_30 2 rfl rfl ?_
  refine b_aload_n X d_S_rowFirst_31 0 rfl rfl ?_
  refine b_iload X d_S_rowFirst_32 4 rfl ?_
  refine b_dV X cf_S_symbolFirst ci_S_symbolFirst ml_S_117 t34 5 rfl rfl (As := [.int (xi σ 4 n25)]) (rest := [.long x2]) rfl (Nat.le_of_ble_eq_true rfl) ⟨Nat.le_of_ble_eq_true rfl, Nat.le_of_ble_eq_true rfl⟩ ⟨Nat.le_of_ble_eq_true rfl, Nat.le_of_ble_eq_true rfl⟩ rfl rfl d_S_rowFirst_34 ?_
  refine b_lor X d_S_rowFirst_37 ?_
  refine b_lstore_n X (lv' := [(0, .ref (xa σ 5)), (1, .int x1), (2, .long (x2 ||| r34)), (4, .int x4), (5, .int (xi σ 4 n25))]) d_S_rowFirst_38 rfl (by decide) [1, 2, 0, 3, 4] rfl ?_
  refine b_aload_n X d_S_rowFirst_39 0 rfl rfl ?_
  refine b_iload X d_S_rowFirst_40 4 rfl ?_
  refine b_dV X cf_S_symbolIsNothing ci_S_symbolIsNothing ml_S_93 t42 5 rfl rfl (As := [.int (xi σ 4 n25)]) (rest := []) rfl (Nat.le_of_ble_eq_true rfl) ⟨Nat.le_of_ble_eq_true rfl, Nat.le_of_ble_eq_true rfl⟩ ⟨Nat.le_of_ble_eq_true rfl, Nat.le_of_ble_eq_true rfl⟩ rfl rfl d_S_rowFirst_42 ?_
  refine b_if_ne X (tgt := 51) d_S_rowFirst_45 (by decide) (fun h => absurd c45 h) (fun _ => ?_)
  refine b_goto X (tgt := 57) d_S_rowFirst_48 (by decide) ?_
  refine b_lload_n X d_S_rowFirst_57 2 rfl rfl ?_
  exact b_lret X d_S_rowFirst_58 hp
theorem sg_S_findFollowings_0_2 {K : KX} {G : GG} {w0 : va_W} {Q : State → Prop} (X : Bd K G w0 "FirstTrees$Study" c_S_findFollowings 5 none rm_S_findFollowings) (σ : St)    (k : Lb K G w0 Q 5 2 [(0, .ref (xa σ 5)), (1, .int 0)] [] (WC G σ) 0 0) : Lb K G w0 Q 5 0 [(0, .ref (xa σ 5))] [] (WC G σ) 0 0 := by
  refine b_iconst X (v := 0) d_S_findFollowings_0 (by decide) ?_
  refine b_istore_n X (lv' := [(0, .ref (xa σ 5)), (1, .int 0)]) d_S_findFollowings_1 rfl (by decide) [1, 0] rfl ?_
  exact k
theorem sg_S_findFollowings_2_t39 {K : KX} {G : GG} {w0 : va_W} {Q : State → Prop} (X : Bd K G w0 "FirstTrees$Study" c_S_findFollowings 5 none rm_S_findFollowings) (σ : St) (x1 : Int32)  (c10 : (xi σ 1 0) ≤ x1) (k : Lb K G w0 Q 5 39 [(0, .ref (xa σ 5)), (1, .int 1), (2, .int 0)] [] (WC G (wl σ 9 0 4294967296)) 0 0) : Lb K G w0 Q 5 2 [(0, .ref (xa σ 5)), (1, .int x1)] [] (WC G σ) 0 0 := by
  refine b_iload_n X d_S_findFollowings_2 1 rfl rfl ?_
  refine b_aload_n X d_S_findFollowings_3 0 rfl rfl ?_
  refine b_get X fl_S_25 5 rfl (v := .ref (xa σ 1)) rfl d_S_findFollowings_4 ?_
  refine b_dV X cf_G_rules ci_G_rules ml_S_83 (ct_G_rules_ G σ ) 1 rfl rfl (As := []) (rest := [.int x1]) rfl (Nat.le_of_ble_eq_true rfl) ⟨Nat.le_of_ble_eq_true rfl, Nat.le_of_ble_eq_true rfl⟩ ⟨Nat.le_of_ble_eq_true rfl, Nat.le_of_ble_eq_true rfl⟩ rfl rfl d_S_findFollowings_7 ?_
  refine b_icmp_ge X (tgt := 26) d_S_findFollowings_10 (by decide) (fun _ => ?_) (fun h => absurd c10 h)
  refine b_aload_n X d_S_findFollowings_26 0 rfl rfl ?_
  refine b_get X fl_S_22 5 rfl (v := .ref (xa σ 9)) rfl d_S_findFollowings_27 ?_
  refine b_iconst X (v := 0) d_S_findFollowings_30 (by decide) ?_
  refine b_ldc2 X (v := 4294967296) kl_S_120 d_S_findFollowings_31 ?_
  refine b_last X 9 rfl (by decide) 0 (by decide) (by decide) (uWC_9 G σ 0 4294967296) d_S_findFollowings_34 ?_
  refine b_iconst X (v := 1) d_S_findFollowings_35 (by decide) ?_
  refine b_istore_n X (lv' := [(0, .ref (xa σ 5)), (1, .int 1)]) d_S_findFollowings_36 rfl (by decide) [1, 0] rfl ?_
  refine b_iconst X (v := 0) d_S_findFollowings_37 (by decide) ?_
  refine b_istore_n X (lv' := [(0, .ref (xa σ 5)), (1, .int 1), (2, .int 0)]) d_S_findFollowings_38 rfl (by decide) [1, 2, 0] rfl ?_
  exact k
theorem sg_S_findFollowings_2_f2 {K : KX} {G : GG} {w0 : va_W} {Q : State → Prop} (X : Bd K G w0 "FirstTrees$Study" c_S_findFollowings 5 none rm_S_findFollowings) (σ : St) (x1 : Int32) (n19 : Nat) (c10 : ¬ (xi σ 1 0) ≤ x1) (e19 : x1 = nI n19) (h19 : n19 < 16) (k : Lb K G w0 Q 5 2 [(0, .ref (xa σ 5)), (1, .int (x1 + 1))] [] (WC G (wl σ 9 n19 0)) 0 0) : Lb K G w0 Q 5 2 [(0, .ref (xa σ 5)), (1, .int x1)] [] (WC G σ) 0 0 := by
  refine b_iload_n X d_S_findFollowings_2 1 rfl rfl ?_
  refine b_aload_n X d_S_findFollowings_3 0 rfl rfl ?_
  refine b_get X fl_S_25 5 rfl (v := .ref (xa σ 1)) rfl d_S_findFollowings_4 ?_
  refine b_dV X cf_G_rules ci_G_rules ml_S_83 (ct_G_rules_ G σ ) 1 rfl rfl (As := []) (rest := [.int x1]) rfl (Nat.le_of_ble_eq_true rfl) ⟨Nat.le_of_ble_eq_true rfl, Nat.le_of_ble_eq_true rfl⟩ ⟨Nat.le_of_ble_eq_true rfl, Nat.le_of_ble_eq_true rfl⟩ rfl rfl d_S_findFollowings_7 ?_
  refine b_icmp_ge X (tgt := 26) d_S_findFollowings_10 (by decide) (fun h => absurd h c10) (fun _ => ?_)
  refine b_aload_n X d_S_findFollowings_13 0 rfl rfl ?_
  refine b_get X fl_S_22 5 rfl (v := .ref (xa σ 9)) rfl d_S_findFollowings_14 ?_
  refine b_iload_n X d_S_findFollowings_17 1 rfl rfl ?_
  refine b_lconst X (v := 0) d_S_findFollowings_18 rfl ?_
  refine b_last X 9 rfl (by decide) n19 e19 h19 (uWC_9 G σ n19 0) d_S_findFollowings_19 ?_
  refine b_iinc X (lv' := [(0, .ref (xa σ 5)), (1, .int (x1 + 1))]) d_S_findFollowings_20 1 rfl (v := (x1 + 1)) rfl (by decide) [1, 0] rfl ?_
  refine b_goto X (tgt := 2) d_S_findFollowings_23 (by decide) ?_
  exact k
theorem sg_S_findFollowings_39_tr {K : KX} {G : GG} {w0 : va_W} {post : PostT} (X : Bd K G w0 "FirstTrees$Study" c_S_findFollowings 5 none rm_S_findFollowings) (σ : St) (x1 : Int32) (x2 : Int32)  (c42 : 16 < x2) (hp : post none (WC G σ)) : Lb K G w0 (Qe K G w0 post rm_S_findFollowings) 5 39 [(0, .ref (xa σ 5)), (1, .int x1), (2, .int x2)] [] (WC G σ) 0 0 := by
  refine b_iload_n X d_S_findFollowings_39 2 rfl rfl ?_
  refine b_bipush X (v := 16) d_S_findFollowings_40 (by decide) ?_
  refine b_icmp_gt X (tgt := 117) d_S_findFollowings_42 (by decide) (fun _ => ?_) (fun h => absurd c42 h)
  exact b_vret X d_S_findFollowings_117 hp
theorem sg_S_findFollowings_39_ftr {K : KX} {G : GG} {w0 : va_W} {post : PostT} (X : Bd K G w0 "FirstTrees$Study" c_S_findFollowings 5 none rm_S_findFollowings) (σ : St) (x1 : Int32) (x2 : Int32)  (c42 : ¬ 16 < x2) (c46 : x1 = 0) (hp : post none (WC G σ)) : Lb K G w0 (Qe K G w0 post rm_S_findFollowings) 5 39 [(0, .ref (xa σ 5)), (1, .int x1), (2, .int x2)] [] (WC G σ) 0 0 := by
  refine b_iload_n X d_S_findFollowings_39 2 rfl rfl ?_
  refine b_bipush X (v := 16) d_S_findFollowings_40 (by decide) ?_
  refine b_icmp_gt X (tgt := 117) d_S_findFollowings_42 (by decide) (fun h => absurd h c42) (fun _ => ?_)
  refine b_iload_n X d_S_findFollowings_45 1 rfl rfl ?_
  refine b_if_eq X (tgt := 117) d_S_findFollowings_46 (by decide) (fun _ => ?_) (fun h => absurd c46 h)
  exact b_vret X d_S_findFollowings_117 hp
theorem sg_S_findFollowings_39_ff53 {K : KX} {G : GG} {w0 : va_W} {Q : State → Prop} (X : Bd K G w0 "FirstTrees$Study" c_S_findFollowings 5 none rm_S_findFollowings) (σ : St) (x1 : Int32) (x2 : Int32)  (c42 : ¬ 16 < x2) (c46 : ¬ x1 = 0) (k : Lb K G w0 Q 5 53 [(0, .ref (xa σ 5)), (1, .int 0), (2, .int x2), (3, .int 0)] [] (WC G σ) 0 0) : Lb K G w0 Q 5 39 [(0, .ref (xa σ 5)), (1, .int x1), (2, .int x2)] [] (WC G σ) 0 0 := by
  refine b_iload_n X d_S_findFollowings_39 2 rfl rfl ?_
  refine b_bipush X (v := 16) d_S_findFollowings_40 (by decide) ?_
  refine b_icmp_gt X (tgt := 117) d_S_findFollowings_42 (by decide) (fun h => absurd h c42) (fun _ => ?_)
  refine b_iload_n X d_S_findFollowings_45 1 rfl rfl ?_
  refine b_if_eq X (tgt := 117) d_S_findFollowings_46 (by decide) (fun h => absurd h c46) (fun _ => ?_)
  refine b_iconst X (v := 0) d_S_findFollowings_49 (by decide) ?_
  refine b_istore_n X (lv' := [(0, .ref (xa σ 5)), (1, .int 0), (2, .int x2)]) d_S_findFollowings_50 rfl (by decide) [1, 0, 2] rfl ?_
  refine b_iconst X (v := 0) d_S_findFollowings_51 (by decide) ?_
  refine b_istore_n X (lv' := [(0, .ref (xa σ 5)), (1, .int 0), (2, .int x2), (3, .int 0)]) d_S_findFollowings_52 rfl (by decide) [1, 2, 3, 0] rfl ?_
  exact k
theorem sg_S_findFollowings_53_t39 {K : KX} {G : GG} {w0 : va_W} {Q : State → Prop} (X : Bd K G w0 "FirstTrees$Study" c_S_findFollowings 5 none rm_S_findFollowings) (σ : St) (x1 : Int32) (x2 : Int32) (x3 : Int32)  (c61 : (xi σ 1 0) ≤ x3) (k : Lb K G w0 Q 5 39 [(0, .ref (xa σ 5)), (1, .int x1), (2, .int (x2 + 1))] [] (WC G σ) 0 0) : Lb K G w0 Q 5 53 [(0, .ref (xa σ 5)), (1, .int x1), (2, .int x2), (3, .int x3)] [] (WC G σ) 0 0 := by
  refine b_iload_n X d_S_findFollowings_53 3 rfl rfl ?_
  refine b_aload_n X d_S_findFollowings_54 0 rfl rfl ?_
  refine b_get X fl_S_25 5 rfl (v := .ref (xa σ 1)) rfl d_S_findFollowings_55 ?_
  refine b_dV X cf_G_rules ci_G_rules ml_S_83 (ct_G_rules_ G σ ) 1 rfl rfl (As := []) (rest := [.int x3]) rfl (Nat.le_of_ble_eq_true rfl) ⟨Nat.le_of_ble_eq_true rfl, Nat.le_of_ble_eq_true rfl⟩ ⟨Nat.le_of_ble_eq_true rfl, Nat.le_of_ble_eq_true rfl⟩ rfl rfl d_S_findFollowings_58 ?_
  refine b_icmp_ge X (tgt := 111) d_S_findFollowings_61 (by decide) (fun _ => ?_) (fun h => absurd c61 h)
  refine b_iinc X (lv' := [(0, .ref (xa σ 5)), (1, .int x1), (2, .int (x2 + 1)), (3, .int x3)]) d_S_findFollowings_111 2 rfl (v := (x2 + 1)) rfl (by decide) [1, 2, 0, 3] rfl ?_
  refine b_goto X (tgt := 39) d_S_findFollowings_114 (by decide) ?_
  refine Lb.pick (lv' := [(0, .ref (xa σ 5)), (1, .int x1), (2, .int (x2 + 1))]) [0, 1, 2] rfl ?_
  exact k
theorem sg_S_findFollowings_53_f67 {K : KX} {G : GG} {w0 : va_W} {Q : State → Prop} (X : Bd K G w0 "FirstTrees$Study" c_S_findFollowings 5 none rm_S_findFollowings) (σ : St) (x1 : Int32) (x2 : Int32) (x3 : Int32)  (c61 : ¬ (xi σ 1 0) ≤ x3) (k : Lb K G w0 Q 5 67 [(0, .ref (xa σ 5)), (1, .int x1), (2, .int x2), (3, .int x3), (4, .int 0)] [] (WC G σ) 0 0) : Lb K G w0 Q 5 53 [(0, .ref (xa σ 5)), (1, .int x1), (2, .int x2), (3, .int x3)] [] (WC G σ) 0 0 := by
  refine b_iload_n X d_S_findFollowings_53 3 rfl rfl ?_
  refine b_aload_n X d_S_findFollowings_54 0 rfl rfl ?_
  refine b_get X fl_S_25 5 rfl (v := .ref (xa σ 1)) rfl d_S_findFollowings_55 ?_
  refine b_dV X cf_G_rules ci_G_rules ml_S_83 (ct_G_rules_ G σ ) 1 rfl rfl (As := []) (rest := [.int x3]) rfl (Nat.le_of_ble_eq_true rfl) ⟨Nat.le_of_ble_eq_true rfl, Nat.le_of_ble_eq_true rfl⟩ ⟨Nat.le_of_ble_eq_true rfl, Nat.le_of_ble_eq_true rfl⟩ rfl rfl d_S_findFollowings_58 ?_
  refine b_icmp_ge X (tgt := 111) d_S_findFollowings_61 (by decide) (fun h => absurd h c61) (fun _ => ?_)
  refine b_iconst X (v := 0) d_S_findFollowings_64 (by decide) ?_
  refine b_istore X (lv' := [(0, .ref (xa σ 5)), (1, .int x1), (2, .int x2), (3, .int x3), (4, .int 0)]) d_S_findFollowings_65 (by decide) [1, 2, 3, 4, 0] rfl ?_
  exact k
theorem sg_S_findFollowings_67_t53 {K : KX} {G : GG} {w0 : va_W} {Q : State → Prop} (X : Bd K G w0 "FirstTrees$Study" c_S_findFollowings 5 none rm_S_findFollowings) (σ : St) (x1 : Int32) (x2 : Int32) (x3 : Int32) (x4 : Int32) (n74 : Nat) (e74 : x3 = nI n74) (h74 : n74 < 16) (c77 : (altC σ n74) ≤ x4) (k : Lb K G w0 Q 5 53 [(0, .ref (xa σ 5)), (1, .int x1), (2, .int x2), (3, .int (x3 + 1))] [] (WC G σ) 0 0) : Lb K G w0 Q 5 67 [(0, .ref (xa σ 5)), (1, .int x1), (2, .int x2), (3, .int x3), (4, .int x4)] [] (WC G σ) 0 0 := by
  refine b_iload X d_S_findFollowings_67 4 rfl ?_
  refine b_aload_n X d_S_findFollowings_69 0 rfl rfl ?_
  refine b_get X fl_S_25 5 rfl (v := .ref (xa σ 1)) rfl d_S_findFollowings_70 ?_
  refine b_iload_n X d_S_findFollowings_73 3 rfl rfl ?_
  refine b_dV X cf_G_alternatives ci_G_alternatives ml_S_65 (ct_G_alternatives G σ x3 n74 e74 h74) 1 rfl rfl (As := [.int x3]) (rest := [.int x4]) rfl (Nat.le_of_ble_eq_true rfl) ⟨Nat.le_of_ble_eq_true rfl, Nat.le_of_ble_eq_true rfl⟩ ⟨Nat.le_of_ble_eq_true rfl, Nat.le_of_ble_eq_true rfl⟩ rfl rfl d_S_findFollowings_74 ?_
  refine b_icmp_ge X (tgt := 105) d_S_findFollowings_77 (by decide) (fun _ => ?_) (fun h => absurd c77 h)
  refine b_iinc X (lv' := [(0, .ref (xa σ 5)), (1, .int x1), (2, .int x2), (3, .int (x3 + 1)), (4, .int x4)]) d_S_findFollowings_105 3 rfl (v := (x3 + 1)) rfl (by decide) [1, 2, 3, 0, 4] rfl ?_
  refine b_goto X (tgt := 53) d_S_findFollowings_108 (by decide) ?_
  refine Lb.pick (lv' := [(0, .ref (xa σ 5)), (1, .int x1), (2, .int x2), (3, .int (x3 + 1))]) [0, 1, 2, 3] rfl ?_
  exact k
theorem sg_S_findFollowings_67_f67 {K : KX} {G : GG} {w0 : va_W} {Q : State → Prop} (X : Bd K G w0 "FirstTrees$Study" c_S_findFollowings 5 none rm_S_findFollowings) (σ : St) (x1 : Int32) (x2 : Int32) (x3 : Int32) (x4 : Int32) (n74 : Nat) (r94 : Int32) (q94 : Sq) (e74 : x3 = nI n74) (h74 : n74 < 16) (c77 : ¬ (altC σ n74) ≤ x4) (t94 : Ct y_S_widenFollowings c_S_widenFollowings 10 (some .boolean) rm_S_widenFollowings G [.ref (xa σ 5), .int ((x3 * 8) + x4), .long (xl σ 9 n74)] (WC G σ) (eqp (some (.int r94)) (WC G (xa σ, q94)))) (k : Lb K G w0 Q 5 67 [(0, .ref (xa σ 5)), (1, .int (x1 ||| r94)), (2, .int x2), (3, .int x3), (4, .int (x4 + 1))] [] (WC G (xa σ, q94)) 0 0) : Lb K G w0 Q 5 67 [(0, .ref (xa σ 5)), (1, .int x1), (2, .int x2), (3, .int x3), (4, .int x4)] [] (WC G σ) 0 0 := by
  refine b_iload X d_S_findFollowings_67 4 rfl ?_
  refine b_aload_n X d_S_findFollowings_69 0 rfl rfl ?_
  refine b_get X fl_S_25 5 rfl (v := .ref (xa σ 1)) rfl d_S_findFollowings_70 ?_
  refine b_iload_n X d_S_findFollowings_73 3 rfl rfl ?_
  refine b_dV X cf_G_alternatives ci_G_alternatives ml_S_65 (ct_G_alternatives G σ x3 n74 e74 h74) 1 rfl rfl (As := [.int x3]) (rest := [.int x4]) rfl (Nat.le_of_ble_eq_true rfl) ⟨Nat.le_of_ble_eq_true rfl, Nat.le_of_ble_eq_true rfl⟩ ⟨Nat.le_of_ble_eq_true rfl, Nat.le_of_ble_eq_true rfl⟩ rfl rfl d_S_findFollowings_74 ?_
  refine b_icmp_ge X (tgt := 105) d_S_findFollowings_77 (by decide) (fun h => absurd h c77) (fun _ => ?_)
  refine b_iload_n X d_S_findFollowings_80 1 rfl rfl ?_
  refine b_aload_n X d_S_findFollowings_81 0 rfl rfl ?_
  refine b_iload_n X d_S_findFollowings_82 3 rfl rfl ?_
  refine b_iload X d_S_findFollowings_83 4 rfl ?_
  refine b_dS X cf_G_row ci_G_row ml_S_71 (ct_G_row_ G σ x3 x4) (As := [.int x3, .int x4]) (rest := [.ref (xa σ 5), .int x1]) rfl (Nat.le_of_ble_eq_true rfl) ⟨Nat.le_of_ble_eq_true rfl, Nat.le_of_ble_eq_true rfl⟩ ⟨Nat.le_of_ble_eq_true rfl, Nat.le_of_ble_eq_true rfl⟩ rfl rfl d_S_findFollowings_85 ?_
  refine b_aload_n X d_S_findFollowings_88 0 rfl rfl ?_
  refine b_get X fl_S_22 5 rfl (v := .ref (xa σ 9)) rfl d_S_findFollowings_89 ?_
  refine b_iload_n X d_S_findFollowings_92 3 rfl rfl ?_
  refine b_lald X 9 rfl (by decide) n74 e74 h74 d_S_findFollowings_93 ?_
  refine b_dV X cf_S_widenFollowings ci_S_widenFollowings ml_S_122 t94 5 rfl rfl (As := [.int ((x3 * 8) + x4), .long (xl σ 9 n74)]) (rest := [.int x1]) rfl (Nat.le_of_ble_eq_true rfl) ⟨Nat.le_of_ble_eq_true rfl, Nat.le_of_ble_eq_true rfl⟩ ⟨Nat.le_of_ble_eq_true rfl, Nat.le_of_ble_eq_true rfl⟩ rfl rfl d_S_findFollowings_94 ?_
  refine b_ior X d_S_findFollowings_97 ?_
  refine b_istore_n X (lv' := [(0, .ref (xa σ 5)), (1, .int (x1 ||| r94)), (2, .int x2), (3, .int x3), (4, .int x4)]) d_S_findFollowings_98 rfl (by decide) [1, 0, 2, 3, 4] rfl ?_
  refine b_iinc X (lv' := [(0, .ref (xa σ 5)), (1, .int (x1 ||| r94)), (2, .int x2), (3, .int x3), (4, .int (x4 + 1))]) d_S_findFollowings_99 4 rfl (v := (x4 + 1)) rfl (by decide) [1, 2, 3, 4, 0] rfl ?_
  refine b_goto X (tgt := 67) d_S_findFollowings_102 (by decide) ?_
  exact k
theorem sg_S_widenFollowings_0_18 {K : KX} {G : GG} {w0 : va_W} {Q : State → Prop} (X : Bd K G w0 "FirstTrees$Study" c_S_widenFollowings 10 (some .boolean) rm_S_widenFollowings) (σ : St) (x1 : Int32) (x2 : Int64) (n11 : Nat) (e11 : x1 = nI n11) (h11 : n11 < 128) (k : Lb K G w0 Q 10 18 [(0, .ref (xa σ 5)), (1, .int x1), (2, .long x2), (4, .int 0), (5, .long x2), (7, .int ((xi σ 3 n11) - 1))] [] (WC G σ) 0 0) : Lb K G w0 Q 10 0 [(0, .ref (xa σ 5)), (1, .int x1), (2, .long x2)] [] (WC G σ) 0 0 := by
  refine b_iconst X (v := 0) d_S_widenFollowings_0 (by decide) ?_
  refine b_istore X (lv' := [(0, .ref (xa σ 5)), (1, .int x1), (2, .long x2), (4, .int 0)]) d_S_widenFollowings_1 (by decide) [1, 2, 3, 0] rfl ?_
  refine b_lload_n X d_S_widenFollowings_3 2 rfl rfl ?_
  refine b_lstore X (lv' := [(0, .ref (xa σ 5)), (1, .int x1), (2, .long x2), (4, .int 0), (5, .long x2)]) d_S_widenFollowings_4 (by decide) [1, 2, 3, 4, 0] rfl ?_
  refine b_aload_n X d_S_widenFollowings_6 0 rfl rfl ?_
  refine b_get X fl_S_25 5 rfl (v := .ref (xa σ 1)) rfl d_S_widenFollowings_7 ?_
  refine b_iload_n X d_S_widenFollowings_10 1 rfl rfl ?_
  refine b_dV X cf_G_length ci_G_length ml_S_87 (ct_G_length_ G σ x1 n11 e11 h11) 1 rfl rfl (As := [.int x1]) (rest := []) rfl (Nat.le_of_ble_eq_true rfl) ⟨Nat.le_of_ble_eq_true rfl, Nat.le_of_ble_eq_true rfl⟩ ⟨Nat.le_of_ble_eq_true rfl, Nat.le_of_ble_eq_true rfl⟩ rfl rfl d_S_widenFollowings_11 ?_
  refine b_iconst X (v := 1) d_S_widenFollowings_14 (by decide) ?_
  refine b_isub X d_S_widenFollowings_15 ?_
  refine b_istore X (lv' := [(0, .ref (xa σ 5)), (1, .int x1), (2, .long x2), (4, .int 0), (5, .long x2), (7, .int ((xi σ 3 n11) - 1))]) d_S_widenFollowings_16 (by decide) [1, 2, 3, 4, 5, 0] rfl ?_
  exact k
theorem sg_S_widenFollowings_18_tr {K : KX} {G : GG} {w0 : va_W} {post : PostT} (X : Bd K G w0 "FirstTrees$Study" c_S_widenFollowings 10 (some .boolean) rm_S_widenFollowings) (σ : St) (x1 : Int32) (x2 : Int64) (x4 : Int32) (x5 : Int64) (x7 : Int32)  (c20 : x7 < 0) (z123 : narrow .boolean (.int x4) = .int x4) (hp : post (some (.int x4)) (WC G σ)) : Lb K G w0 (Qe K G w0 post rm_S_widenFollowings) 10 18 [(0, .ref (xa σ 5)), (1, .int x1), (2, .long x2), (4, .int x4), (5, .long x5), (7, .int x7)] [] (WC G σ) 0 0 := by
  refine b_iload X d_S_widenFollowings_18 5 rfl ?_
  refine b_if_lt X (tgt := 121) d_S_widenFollowings_20 (by decide) (fun _ => ?_) (fun h => absurd c20 h)
  refine b_iload X d_S_widenFollowings_121 3 rfl ?_
  exact b_zret X z123 d_S_widenFollowings_123 hp
theorem sg_S_widenFollowings_18_ftt18 {K : KX} {G : GG} {w0 : va_W} {Q : State → Prop} (X : Bd K G w0 "FirstTrees$Study" c_S_widenFollowings 10 (some .boolean) rm_S_widenFollowings) (σ : St) (x1 : Int32) (x2 : Int64) (x4 : Int32) (x5 : Int64) (x7 : Int32) (n30 : Nat) (r94 : Int64) (r100 : Int32) (c20 : ¬ x7 < 0) (e30 : ((x1 * 8) + x7) = nI n30) (h30 : n30 < 1024) (c40 : ¬ (b2i (0 ≤ (xi σ 4 n30))) = 0) (t94 : Ct y_S_symbolFirst c_S_symbolFirst 2 (some .long) rm_S_symbolFirst G [.ref (xa σ 5), .int (xi σ 4 n30)] (WC G σ) (eqp (some (.long r94)) (WC G σ))) (t100 : Ct y_S_symbolIsNothing c_S_symbolIsNothing 2 (some .boolean) rm_S_symbolIsNothing G [.ref (xa σ 5), .int (xi σ 4 n30)] (WC G σ) (eqp (some (.int r100)) (WC G σ))) (c103 : r100 = 0) (k : Lb K G w0 Q 10 18 [(0, .ref (xa σ 5)), (1, .int x1), (2, .long x2), (4, .int x4), (5, .long (r94 ||| 0)), (7, .int (x7 + (-1)))] [] (WC G σ) 0 0) : Lb K G w0 Q 10 18 [(0, .ref (xa σ 5)), (1, .int x1), (2, .long x2), (4, .int x4), (5, .long x5), (7, .int x7)] [] (WC G σ) 0 0 := by
  refine b_iload X d_S_widenFollowings_18 5 rfl ?_
  refine b_if_lt X (tgt := 121) d_S_widenFollowings_20 (by decide) (fun h => absurd h c20) (fun _ => ?_)
  refine b_aload_n X d_S_widenFollowings_23 0 rfl rfl ?_
  refine b_get X fl_S_25 5 rfl (v := .ref (xa σ 1)) rfl d_S_widenFollowings_24 ?_
  refine b_iload_n X d_S_widenFollowings_27 1 rfl rfl ?_
  refine b_iload X d_S_widenFollowings_28 5 rfl ?_
  refine b_dV X cf_G_symbolAt ci_G_symbolAt ml_S_90 (ct_G_symbolAt_ G σ x1 x7 n30 e30 h30) 1 rfl rfl (As := [.int x1, .int x7]) (rest := []) rfl (Nat.le_of_ble_eq_true rfl) ⟨Nat.le_of_ble_eq_true rfl, Nat.le_of_ble_eq_true rfl⟩ ⟨Nat.le_of_ble_eq_true rfl, Nat.le_of_ble_eq_true rfl⟩ rfl rfl d_S_widenFollowings_30 ?_
  refine b_istore X (lv' := [(0, .ref (xa σ 5)), (1, .int x1), (2, .long x2), (4, .int x4), (5, .long x5), (7, .int x7), (8, .int (xi σ 4 n30))]) d_S_widenFollowings_33 (by decide) [1, 2, 3, 4, 5, 6, 0] rfl ?_
  refine b_iload X d_S_widenFollowings_35 6 rfl ?_
  refine b_dS X cf_G_isToken ci_G_isToken ml_S_96 (ct_G_isToken G σ (xi σ 4 n30)) (As := [.int (xi σ 4 n30)]) (rest := []) rfl (Nat.le_of_ble_eq_true rfl) ⟨Nat.le_of_ble_eq_true rfl, Nat.le_of_ble_eq_true rfl⟩ ⟨Nat.le_of_ble_eq_true rfl, Nat.le_of_ble_eq_true rfl⟩ rfl rfl d_S_widenFollowings_37 ?_
  refine b_if_ne X (tgt := 91) d_S_widenFollowings_40 (by decide) (fun _ => ?_) (fun h => absurd h c40)
  refine b_aload_n X d_S_widenFollowings_91 0 rfl rfl ?_
  refine b_iload X d_S_widenFollowings_92 6 rfl ?_
  refine b_dV X cf_S_symbolFirst ci_S_symbolFirst ml_S_117 t94 5 rfl rfl (As := [.int (xi σ 4 n30)]) (rest := []) rfl (Nat.le_of_ble_eq_true rfl) ⟨Nat.le_of_ble_eq_true rfl, Nat.le_of_ble_eq_true rfl⟩ ⟨Nat.le_of_ble_eq_true rfl, Nat.le_of_ble_eq_true rfl⟩ rfl rfl d_S_widenFollowings_94 ?_
  refine b_aload_n X d_S_widenFollowings_97 0 rfl rfl ?_
  refine b_iload X d_S_widenFollowings_98 6 rfl ?_
  refine b_dV X cf_S_symbolIsNothing ci_S_symbolIsNothing ml_S_93 t100 5 rfl rfl (As := [.int (xi σ 4 n30)]) (rest := [.long r94]) rfl (Nat.le_of_ble_eq_true rfl) ⟨Nat.le_of_ble_eq_true rfl, Nat.le_of_ble_eq_true rfl⟩ ⟨Nat.le_of_ble_eq_true rfl, Nat.le_of_ble_eq_true rfl⟩ rfl rfl d_S_widenFollowings_100 ?_
  refine b_if_eq X (tgt := 111) d_S_widenFollowings_103 (by decide) (fun _ => ?_) (fun h => absurd c103 h)
  refine b_lconst X (v := 0) d_S_widenFollowings_111 rfl ?_
  refine b_lor X d_S_widenFollowings_112 ?_
  refine b_lstore X (lv' := [(0, .ref (xa σ 5)), (1, .int x1), (2, .long x2), (4, .int x4), (5, .long (r94 ||| 0)), (7, .int x7), (8, .int (xi σ 4 n30))]) d_S_widenFollowings_113 (by decide) [1, 2, 3, 4, 0, 5, 6] rfl ?_
  refine b_iinc X (lv' := [(0, .ref (xa σ 5)), (1, .int x1), (2, .long x2), (4, .int x4), (5, .long (r94 ||| 0)), (7, .int (x7 + (-1))), (8, .int (xi σ 4 n30))]) d_S_widenFollowings_115 5 rfl (v := (x7 + (-1))) rfl (by decide) [1, 2, 3, 4, 5, 0, 6] rfl ?_
  refine b_goto X (tgt := 18) d_S_widenFollowings_118 (by decide) ?_
  refine Lb.pick (lv' := [(0, .ref (xa σ 5)), (1, .int x1), (2, .long x2), (4, .int x4), (5, .long (r94 ||| 0)), (7, .int (x7 + (-1)))]) [0, 1, 2, 3, 4, 5] rfl ?_
  exact k
theorem sg_S_widenFollowings_18_ftf18 {K : KX} {G : GG} {w0 : va_W} {Q : State → Prop} (X : Bd K G w0 "FirstTrees$Study" c_S_widenFollowings 10 (some .boolean) rm_S_widenFollowings) (σ : St) (x1 : Int32) (x2 : Int64) (x4 : Int32) (x5 : Int64) (x7 : Int32) (n30 : Nat) (r94 : Int64) (r100 : Int32) (c20 : ¬ x7 < 0) (e30 : ((x1 * 8) + x7) = nI n30) (h30 : n30 < 1024) (c40 : ¬ (b2i (0 ≤ (xi σ 4 n30))) = 0) (t94 : Ct y_S_symbolFirst c_S_symbolFirst 2 (some .long) rm_S_symbolFirst G [.ref (xa σ 5), .int (xi σ 4 n30)] (WC G σ) (eqp (some (.long r94)) (WC G σ))) (t100 : Ct y_S_symbolIsNothing c_S_symbolIsNothing 2 (some .boolean) rm_S_symbolIsNothing G [.ref (xa σ 5), .int (xi σ 4 n30)] (WC G σ) (eqp (some (.int r100)) (WC G σ))) (c103 : ¬ r100 = 0) (k : Lb K G w0 Q 10 18 [(0, .ref (xa σ 5)), (1, .int x1), (2, .long x2), (4, .int x4), (5, .long (r94 ||| x5)), (7, .int (x7 + (-1)))] [] (WC G σ) 0 0) : Lb K G w0 Q 10 18 [(0, .ref (xa σ 5)), (1, .int x1), (2, .long x2), (4, .int x4), (5, .long x5), (7, .int x7)] [] (WC G σ) 0 0 := by
  refine b_iload X d_S_widenFollowings_18 5 rfl ?_
  refine b_if_lt X (tgt := 121) d_S_widenFollowings_20 (by decide) (fun h => absurd h c20) (fun _ => ?_)
  refine b_aload_n X d_S_widenFollowings_23 0 rfl rfl ?_
  refine b_get X fl_S_25 5 rfl (v := .ref (xa σ 1)) rfl d_S_widenFollowings_24 ?_
  refine b_iload_n X d_S_widenFollowings_27 1 rfl rfl ?_
  refine b_iload X d_S_widenFollowings_28 5 rfl ?_
  refine b_dV X cf_G_symbolAt ci_G_symbolAt ml_S_90 (ct_G_symbolAt_ G σ x1 x7 n30 e30 h30) 1 rfl rfl (As := [.int x1, .int x7]) (rest := []) rfl (Nat.le_of_ble_eq_true rfl) ⟨Nat.le_of_ble_eq_true rfl, Nat.le_of_ble_eq_true rfl⟩ ⟨Nat.le_of_ble_eq_true rfl, Nat.le_of_ble_eq_true rfl⟩ rfl rfl d_S_widenFollowings_30 ?_
  refine b_istore X (lv' := [(0, .ref (xa σ 5)), (1, .int x1), (2, .long x2), (4, .int x4), (5, .long x5), (7, .int x7), (8, .int (xi σ 4 n30))]) d_S_widenFollowings_33 (by decide) [1, 2, 3, 4, 5, 6, 0] rfl ?_
  refine b_iload X d_S_widenFollowings_35 6 rfl ?_
  refine b_dS X cf_G_isToken ci_G_isToken ml_S_96 (ct_G_isToken G σ (xi σ 4 n30)) (As := [.int (xi σ 4 n30)]) (rest := []) rfl (Nat.le_of_ble_eq_true rfl) ⟨Nat.le_of_ble_eq_true rfl, Nat.le_of_ble_eq_true rfl⟩ ⟨Nat.le_of_ble_eq_true rfl, Nat.le_of_ble_eq_true rfl⟩ rfl rfl d_S_widenFollowings_37 ?_
  refine b_if_ne X (tgt := 91) d_S_widenFollowings_40 (by decide) (fun _ => ?_) (fun h => absurd h c40)
  refine b_aload_n X d_S_widenFollowings_91 0 rfl rfl ?_
  refine b_iload X d_S_widenFollowings_92 6 rfl ?_
  refine b_dV X cf_S_symbolFirst ci_S_symbolFirst ml_S_117 t94 5 rfl rfl (As := [.int (xi σ 4 n30)]) (rest := []) rfl (Nat.le_of_ble_eq_true rfl) ⟨Nat.le_of_ble_eq_true rfl, Nat.le_of_ble_eq_true rfl⟩ ⟨Nat.le_of_ble_eq_true rfl, Nat.le_of_ble_eq_true rfl⟩ rfl rfl d_S_widenFollowings_94 ?_
  refine b_aload_n X d_S_widenFollowings_97 0 rfl rfl ?_
  refine b_iload X d_S_widenFollowings_98 6 rfl ?_
  refine b_dV X cf_S_symbolIsNothing ci_S_symbolIsNothing ml_S_93 t100 5 rfl rfl (As := [.int (xi σ 4 n30)]) (rest := [.long r94]) rfl (Nat.le_of_ble_eq_true rfl) ⟨Nat.le_of_ble_eq_true rfl, Nat.le_of_ble_eq_true rfl⟩ ⟨Nat.le_of_ble_eq_true rfl, Nat.le_of_ble_eq_true rfl⟩ rfl rfl d_S_widenFollowings_100 ?_
  refine b_if_eq X (tgt := 111) d_S_widenFollowings_103 (by decide) (fun h => absurd h c103) (fun _ => ?_)
  refine b_lload X d_S_widenFollowings_106 4 rfl ?_
  refine b_goto X (tgt := 112) d_S_widenFollowings_108 (by decide) ?_
  refine b_lor X d_S_widenFollowings_112 ?_
  refine b_lstore X (lv' := [(0, .ref (xa σ 5)), (1, .int x1), (2, .long x2), (4, .int x4), (5, .long (r94 ||| x5)), (7, .int x7), (8, .int (xi σ 4 n30))]) d_S_widenFollowings_113 (by decide) [1, 2, 3, 4, 0, 5, 6] rfl ?_
  refine b_iinc X (lv' := [(0, .ref (xa σ 5)), (1, .int x1), (2, .long x2), (4, .int x4), (5, .long (r94 ||| x5)), (7, .int (x7 + (-1))), (8, .int (xi σ 4 n30))]) d_S_widenFollowings_115 5 rfl (v := (x7 + (-1))) rfl (by decide) [1, 2, 3, 4, 5, 0, 6] rfl ?_
  refine b_goto X (tgt := 18) d_S_widenFollowings_118 (by decide) ?_
  refine Lb.pick (lv' := [(0, .ref (xa σ 5)), (1, .int x1), (2, .long x2), (4, .int x4), (5, .long (r94 ||| x5)), (7, .int (x7 + (-1)))]) [0, 1, 2, 3, 4, 5] rfl ?_
  exact k
theorem sg_S_widenFollowings_18_fftt18 {K : KX} {G : GG} {w0 : va_W} {Q : State → Prop} (X : Bd K G w0 "FirstTrees$Study" c_S_widenFollowings 10 (some .boolean) rm_S_widenFollowings) (σ : St) (x1 : Int32) (x2 : Int64) (x4 : Int32) (x5 : Int64) (x7 : Int32) (n30 : Nat) (n60 : Nat) (r94 : Int64) (r100 : Int32) (c20 : ¬ x7 < 0) (e30 : ((x1 * 8) + x7) = nI n30) (h30 : n30 < 1024) (c40 : (b2i (0 ≤ (xi σ 4 n30))) = 0) (e60 : ((-1) - (xi σ 4 n30)) = nI n60) (h60 : n60 < 16) (c67 : (x5 &&& ((xl σ 9 n60) ^^^ (-1))) = 0) (t94 : Ct y_S_symbolFirst c_S_symbolFirst 2 (some .long) rm_S_symbolFirst G [.ref (xa σ 5), .int (xi σ 4 n30)] (WC G (wl σ 9 n60 ((xl σ 9 n60) ||| x5))) (eqp (some (.long r94)) (WC G (wl σ 9 n60 ((xl σ 9 n60) ||| x5))))) (t100 : Ct y_S_symbolIsNothing c_S_symbolIsNothing 2 (some .boolean) rm_S_symbolIsNothing G [.ref (xa σ 5), .int (xi σ 4 n30)] (WC G (wl σ 9 n60 ((xl σ 9 n60) ||| x5))) (eqp (some (.int r100)) (WC G (wl σ 9 n60 ((xl σ 9 n60) ||| x5))))) (c103 : r100 = 0) (k : Lb K G w0 Q 10 18 [(0, .ref (xa σ 5)), (1, .int x1), (2, .long x2), (4, .int (x4 ||| 0)), (5, .long (r94 ||| 0)), (7, .int (x7 + (-1)))] [] (WC G (wl σ 9 n60 ((xl σ 9 n60) ||| x5))) 0 0) : Lb K G w0 Q 10 18 [(0, .ref (xa σ 5)), (1, .int x1), (2, .long x2), (4, .int x4), (5, .long x5), (7, .int x7)] [] (WC G σ) 0 0 := by
  refine b_iload X d_S_widenFollowings_18 5 rfl ?_
  refine b_if_lt X (tgt := 121) d_S_widenFollowings_20 (by decide) (fun h => absurd h c20) (fun _ => ?_)
  refine b_aload_n X d_S_widenFollowings_23 0 rfl rfl ?_
  refine b_get X fl_S_25 5 rfl (v := .ref (xa σ 1)) rfl d_S_widenFollowings_24 ?_
  refine b_iload_n X d_S_widenFollowings_27 1 rfl rfl ?_
  refine b_iload X d_S_widenFollowings_28 5 rfl ?_
  refine b_dV X cf_G_symbolAt ci_G_symbolAt ml_S_90 (ct_G_symbolAt_ G σ x1 x7 n30 e30 h30) 1 rfl rfl (As := [.int x1, .int x7]) (rest := []) rfl (Nat.le_of_ble_eq_true rfl) ⟨Nat.le_of_ble_eq_true rfl, Nat.le_of_ble_eq_true rfl⟩ ⟨Nat.le_of_ble_eq_true rfl, Nat.le_of_ble_eq_true rfl⟩ rfl rfl d_S_widenFollowings_30 ?_
  refine b_istore X (lv' := [(0, .ref (xa σ 5)), (1, .int x1), (2, .long x2), (4, .int x4), (5, .long x5), (7, .int x7), (8, .int (xi σ 4 n30))]) d_S_widenFollowings_33 (by decide) [1, 2, 3, 4, 5, 6, 0] rfl ?_
  refine b_iload X d_S_widenFollowings_35 6 rfl ?_
  refine b_dS X cf_G_isToken ci_G_isToken ml_S_96 (ct_G_isToken G σ (xi σ 4 n30)) (As := [.int (xi σ 4 n30)]) (rest := []) rfl (Nat.le_of_ble_eq_true rfl) ⟨Nat.le_of_ble_eq_true rfl, Nat.le_of_ble_eq_true rfl⟩ ⟨Nat.le_of_ble_eq_true rfl, Nat.le_of_ble_eq_true rfl⟩ rfl rfl d_S_widenFollowings_37 ?_
  refine b_if_ne X (tgt := 91) d_S_widenFollowings_40 (by decide) (fun h => absurd c40 h) (fun _ => ?_)
  refine b_iload X d_S_widenFollowings_43 6 rfl ?_
  refine b_dS X cf_G_ruleOf ci_G_ruleOf ml_S_99 (ct_G_ruleOf_ G σ (xi σ 4 n30)) (As := [.int (xi σ 4 n30)]) (rest := []) rfl (Nat.le_of_ble_eq_true rfl) ⟨Nat.le_of_ble_eq_true rfl, Nat.le_of_ble_eq_true rfl⟩ ⟨Nat.le_of_ble_eq_true rfl, Nat.le_of_ble_eq_true rfl⟩ rfl rfl d_S_widenFollowings_45 ?_
  refine b_istore X (lv' := [(0, .ref (xa σ 5)), (1, .int x1), (2, .long x2), (4, .int x4), (5, .long x5), (7, .int x7), (8, .int (xi σ 4 n30)), (9, .int ((-1) - (xi σ 4 n30)))]) d_S_widenFollowings_48 (by decide) [1, 2, 3, 4, 5, 6, 7, 0] rfl ?_
  refine b_iload X d_S_widenFollowings_50 3 rfl ?_
  refine b_lload X d_S_widenFollowings_52 4 rfl ?_
  refine b_aload_n X d_S_widenFollowings_54 0 rfl rfl ?_
  refine b_get X fl_S_22 5 rfl (v := .ref (xa σ 9)) rfl d_S_widenFollowings_55 ?_
  refine b_iload X d_S_widenFollowings_58 7 rfl ?_
  refine b_lald X 9 rfl (by decide) n60 e60 h60 d_S_widenFollowings_60 ?_
  refine b_ldc2 X (v := (-1)) kl_S_126 d_S_widenFollowings_61 ?_
  refine b_lxor X d_S_widenFollowings_64 ?_
  refine b_land X d_S_widenFollowings_65 ?_
  refine b_lconst X (v := 0) d_S_widenFollowings_66 rfl ?_
  refine b_l_eq X (tgt := 75) d_S_widenFollowings_67 d_S_widenFollowings_68 (by decide) (fun _ => ?_) (fun h => absurd c67 h)
  refine b_iconst X (v := 0) d_S_widenFollowings_75 (by decide) ?_
  refine b_ior X d_S_widenFollowings_76 ?_
  refine b_istore X (lv' := [(0, .ref (xa σ 5)), (1, .int x1), (2, .long x2), (4, .int (x4 ||| 0)), (5, .long x5), (7, .int x7), (8, .int (xi σ 4 n30)), (9, .int ((-1) - (xi σ 4 n30)))]) d_S_widenFollowings_77 (by decide) [1, 2, 3, 0, 4, 5, 6, 7] rfl ?_
  refine b_aload_n X d_S_widenFollowings_79 0 rfl rfl ?_
  refine b_get X fl_S_22 5 rfl (v := .ref (xa σ 9)) rfl d_S_widenFollowings_80 ?_
  refine b_iload X d_S_widenFollowings_83 7 rfl ?_
  refine b_dup2 X d_S_widenFollowings_85 rfl rfl ?_
  refine b_lald X 9 rfl (by decide) n60 e60 h60 d_S_widenFollowings_86 ?_
  refine b_lload X d_S_widenFollowings_87 4 rfl ?_
  refine b_lor X d_S_widenFollowings_89 ?_
  refine b_last X 9 rfl (by decide) n60 e60 h60 (uWC_9 G σ n60 ((xl σ 9 n60) ||| x5)) d_S_widenFollowings_90 ?_
  refine b_aload_n X d_S_widenFollowings_91 0 rfl rfl ?_
  refine b_iload X d_S_widenFollowings_92 6 rfl ?_
  refine b_dV X cf_S_symbolFirst ci_S_symbolFirst ml_S_117 t94 5 rfl rfl (As := [.int (xi σ 4 n30)]) (rest := []) rfl (Nat.le_of_ble_eq_true rfl) ⟨Nat.le_of_ble_eq_true rfl, Nat.le_of_ble_eq_true rfl⟩ ⟨Nat.le_of_ble_eq_true rfl, Nat.le_of_ble_eq_true rfl⟩ rfl rfl d_S_widenFollowings_94 ?_
  refine b_aload_n X d_S_widenFollowings_97 0 rfl rfl ?_
  refine b_iload X d_S_widenFollowings_98 6 rfl ?_
  refine b_dV X cf_S_symbolIsNothing ci_S_symbolIsNothing ml_S_93 t100 5 rfl rfl (As := [.int (xi σ 4 n30)]) (rest := [.long r94]) rfl (Nat.le_of_ble_eq_true rfl) ⟨Nat.le_of_ble_eq_true rfl, Nat.le_of_ble_eq_true rfl⟩ ⟨Nat.le_of_ble_eq_true rfl, Nat.le_of_ble_eq_true rfl⟩ rfl rfl d_S_widenFollowings_100 ?_
  refine b_if_eq X (tgt := 111) d_S_widenFollowings_103 (by decide) (fun _ => ?_) (fun h => absurd c103 h)
  refine b_lconst X (v := 0) d_S_widenFollowings_111 rfl ?_
  refine b_lor X d_S_widenFollowings_112 ?_
  refine b_lstore X (lv' := [(0, .ref (xa σ 5)), (1, .int x1), (2, .long x2), (4, .int (x4 ||| 0)), (5, .long (r94 ||| 0)), (7, .int x7), (8, .int (xi σ 4 n30)), (9, .int ((-1) - (xi σ 4 n30)))]) d_S_widenFollowings_113 (by decide) [1, 2, 3, 4, 0, 5, 6, 7] rfl ?_
  refine b_iinc X (lv' := [(0, .ref (xa σ 5)), (1, .int x1), (2, .long x2), (4, .int (x4 ||| 0)), (5, .long (r94 ||| 0)), (7, .int (x7 + (-1))), (8, .int (xi σ 4 n30)), (9, .int ((-1) - (xi σ 4 n30)))]) d_S_widenFollowings_115 5 rfl (v := (x7 + (-1))) rfl (by decide) [1, 2, 3, 4, 5, 0, 6, 7] rfl ?_
  refine b_goto X (tgt := 18) d_S_widenFollowings_118 (by decide) ?_
  refine Lb.pick (lv' := [(0, .ref (xa σ 5)), (1, .int x1), (2, .long x2), (4, .int (x4 ||| 0)), (5, .long (r94 ||| 0)), (7, .int (x7 + (-1)))]) [0, 1, 2, 3, 4, 5] rfl ?_
  exact k
theorem sg_S_widenFollowings_18_fftf18 {K : KX} {G : GG} {w0 : va_W} {Q : State → Prop} (X : Bd K G w0 "FirstTrees$Study" c_S_widenFollowings 10 (some .boolean) rm_S_widenFollowings) (σ : St) (x1 : Int32) (x2 : Int64) (x4 : Int32) (x5 : Int64) (x7 : Int32) (n30 : Nat) (n60 : Nat) (r94 : Int64) (r100 : Int32) (c20 : ¬ x7 < 0) (e30 : ((x1 * 8) + x7) = nI n30) (h30 : n30 < 1024) (c40 : (b2i (0 ≤ (xi σ 4 n30))) = 0) (e60 : ((-1) - (xi σ 4 n30)) = nI n60) (h60 : n60 < 16) (c67 : (x5 &&& ((xl σ 9 n60) ^^^ (-1))) = 0) (t94 : Ct y_S_symbolFirst c_S_symbolFirst 2 (some .long) rm_S_symbolFirst G [.ref (xa σ 5), .int (xi σ 4 n30)] (WC G (wl σ 9 n60 ((xl σ 9 n60) ||| x5))) (eqp (some (.long r94)) (WC G (wl σ 9 n60 ((xl σ 9 n60) ||| x5))))) (t100 : Ct y_S_symbolIsNothing c_S_symbolIsNothing 2 (some .boolean) rm_S_symbolIsNothing G [.ref (xa σ 5), .int (xi σ 4 n30)] (WC G (wl σ 9 n60 ((xl σ 9 n60) ||| x5))) (eqp (some (.int r100)) (WC G (wl σ 9 n60 ((xl σ 9 n60) ||| x5))))) (c103 : ¬ r100 = 0) (k : Lb K G w0 Q 10 18 [(0, .ref (xa σ 5)), (1, .int x1), (2, .long x2), (4, .int (x4 ||| 0)), (5, .long (r94 ||| x5)), (7, .int (x7 + (-1)))] [] (WC G (wl σ 9 n60 ((xl σ 9 n60) ||| x5))) 0 0) : Lb K G w0 Q 10 18 [(0, .ref (xa σ 5)), (1, .int x1), (2, .long x2), (4, .int x4), (5, .long x5), (7, .int x7)] [] (WC G σ) 0 0 := by
  refine b_iload X d_S_widenFollowings_18 5 rfl ?_
  refine b_if_lt X (tgt := 121) d_S_widenFollowings_20 (by decide) (fun h => absurd h c20) (fun _ => ?_)
  refine b_aload_n X d_S_widenFollowings_23 0 rfl rfl ?_
  refine b_get X fl_S_25 5 rfl (v := .ref (xa σ 1)) rfl d_S_widenFollowings_24 ?_
  refine b_iload_n X d_S_widenFollowings_27 1 rfl rfl ?_
  refine b_iload X d_S_widenFollowings_28 5 rfl ?_
  refine b_dV X cf_G_symbolAt ci_G_symbolAt ml_S_90 (ct_G_symbolAt_ G σ x1 x7 n30 e30 h30) 1 rfl rfl (As := [.int x1, .int x7]) (rest := []) rfl (Nat.le_of_ble_eq_true rfl) ⟨Nat.le_of_ble_eq_true rfl, Nat.le_of_ble_eq_true rfl⟩ ⟨Nat.le_of_ble_eq_true rfl, Nat.le_of_ble_eq_true rfl⟩ rfl rfl d_S_widenFollowings_30 ?_
  refine b_istore X (lv' := [(0, .ref (xa σ 5)), (1, .int x1), (2, .long x2), (4, .int x4), (5, .long x5), (7, .int x7), (8, .int (xi σ 4 n30))]) d_S_widenFollowings_33 (by decide) [1, 2, 3, 4, 5, 6, 0] rfl ?_
  refine b_iload X d_S_widenFollowings_35 6 rfl ?_
  refine b_dS X cf_G_isToken ci_G_isToken ml_S_96 (ct_G_isToken G σ (xi σ 4 n30)) (As := [.int (xi σ 4 n30)]) (rest := []) rfl (Nat.le_of_ble_eq_true rfl) ⟨Nat.le_of_ble_eq_true rfl, Nat.le_of_ble_eq_true rfl⟩ ⟨Nat.le_of_ble_eq_true rfl, Nat.le_of_ble_eq_true rfl⟩ rfl rfl d_S_widenFollowings_37 ?_
  refine b_if_ne X (tgt := 91) d_S_widenFollowings_40 (by decide) (fun h => absurd c40 h) (fun _ => ?_)
  refine b_iload X d_S_widenFollowings_43 6 rfl ?_
  refine b_dS X cf_G_ruleOf ci_G_ruleOf ml_S_99 (ct_G_ruleOf_ G σ (xi σ 4 n30)) (As := [.int (xi σ 4 n30)]) (rest := []) rfl (Nat.le_of_ble_eq_true rfl) ⟨Nat.le_of_ble_eq_true rfl, Nat.le_of_ble_eq_true rfl⟩ ⟨Nat.le_of_ble_eq_true rfl, Nat.le_of_ble_eq_true rfl⟩ rfl rfl d_S_widenFollowings_45 ?_
  refine b_istore X (lv' := [(0, .ref (xa σ 5)), (1, .int x1), (2, .long x2), (4, .int x4), (5, .long x5), (7, .int x7), (8, .int (xi σ 4 n30)), (9, .int ((-1) - (xi σ 4 n30)))]) d_S_widenFollowings_48 (by decide) [1, 2, 3, 4, 5, 6, 7, 0] rfl ?_
  refine b_iload X d_S_widenFollowings_50 3 rfl ?_
  refine b_lload X d_S_widenFollowings_52 4 rfl ?_
  refine b_aload_n X d_S_widenFollowings_54 0 rfl rfl ?_
  refine b_get X fl_S_22 5 rfl (v := .ref (xa σ 9)) rfl d_S_widenFollowings_55 ?_
  refine b_iload X d_S_widenFollowings_58 7 rfl ?_
  refine b_lald X 9 rfl (by decide) n60 e60 h60 d_S_widenFollowings_60 ?_
  refine b_ldc2 X (v := (-1)) kl_S_126 d_S_widenFollowings_61 ?_
  refine b_lxor X d_S_widenFollowings_64 ?_
  refine b_land X d_S_widenFollowings_65 ?_
  refine b_lconst X (v := 0) d_S_widenFollowings_66 rfl ?_
  refine b_l_eq X (tgt := 75) d_S_widenFollowings_67 d_S_widenFollowings_68 (by decide) (fun _ => ?_) (fun h => absurd c67 h)
  refine b_iconst X (v := 0) d_S_widenFollowings_75 (by decide) ?_
  refine b_ior X d_S_widenFollowings_76 ?_
  refine b_istore X (lv' := [(0, .ref (xa σ 5)), (1, .int x1), (2, .long x2), (4, .int (x4 ||| 0)), (5, .long x5), (7, .int x7), (8, .int (xi σ 4 n30)), (9, .int ((-1) - (xi σ 4 n30)))]) d_S_widenFollowings_77 (by decide) [1, 2, 3, 0, 4, 5, 6, 7] rfl ?_
  refine b_aload_n X d_S_widenFollowings_79 0 rfl rfl ?_
  refine b_get X fl_S_22 5 rfl (v := .ref (xa σ 9)) rfl d_S_widenFollowings_80 ?_
  refine b_iload X d_S_widenFollowings_83 7 rfl ?_
  refine b_dup2 X d_S_widenFollowings_85 rfl rfl ?_
  refine b_lald X 9 rfl (by decide) n60 e60 h60 d_S_widenFollowings_86 ?_
  refine b_lload X d_S_widenFollowings_87 4 rfl ?_
  refine b_lor X d_S_widenFollowings_89 ?_
  refine b_last X 9 rfl (by decide) n60 e60 h60 (uWC_9 G σ n60 ((xl σ 9 n60) ||| x5)) d_S_widenFollowings_90 ?_
  refine b_aload_n X d_S_widenFollowings_91 0 rfl rfl ?_
  refine b_iload X d_S_widenFollowings_92 6 rfl ?_
  refine b_dV X cf_S_symbolFirst ci_S_symbolFirst ml_S_117 t94 5 rfl rfl (As := [.int (xi σ 4 n30)]) (rest := []) rfl (Nat.le_of_ble_eq_true rfl) ⟨Nat.le_of_ble_eq_true rfl, Nat.le_of_ble_eq_true rfl⟩ ⟨Nat.le_of_ble_eq_true rfl, Nat.le_of_ble_eq_true rfl⟩ rfl rfl d_S_widenFollowings_94 ?_
  refine b_aload_n X d_S_widenFollowings_97 0 rfl rfl ?_
  refine b_iload X d_S_widenFollowings_98 6 rfl ?_
  refine b_dV X cf_S_symbolIsNothing ci_S_symbolIsNothing ml_S_93 t100 5 rfl rfl (As := [.int (xi σ 4 n30)]) (rest := [.long r94]) rfl (Nat.le_of_ble_eq_true rfl) ⟨Nat.le_of_ble_eq_true rfl, Nat.le_of_ble_eq_true rfl⟩ ⟨Nat.le_of_ble_eq_true rfl, Nat.le_of_ble_eq_true rfl⟩ rfl rfl d_S_widenFollowings_100 ?_
  refine b_if_eq X (tgt := 111) d_S_widenFollowings_103 (by decide) (fun h => absurd h c103) (fun _ => ?_)
  refine b_lload X d_S_widenFollowings_106 4 rfl ?_
  refine b_goto X (tgt := 112) d_S_widenFollowings_108 (by decide) ?_
  refine b_lor X d_S_widenFollowings_112 ?_
  refine b_lstore X (lv' := [(0, .ref (xa σ 5)), (1, .int x1), (2, .long x2), (4, .int (x4 ||| 0)), (5, .long (r94 ||| x5)), (7, .int x7), (8, .int (xi σ 4 n30)), (9, .int ((-1) - (xi σ 4 n30)))]) d_S_widenFollowings_113 (by decide) [1, 2, 3, 4, 0, 5, 6, 7] rfl ?_
  refine b_iinc X (lv' := [(0, .ref (xa σ 5)), (1, .int x1), (2, .long x2), (4, .int (x4 ||| 0)), (5, .long (r94 ||| x5)), (7, .int (x7 + (-1))), (8, .int (xi σ 4 n30)), (9, .int ((-1) - (xi σ 4 n30)))]) d_S_widenFollowings_115 5 rfl (v := (x7 + (-1))) rfl (by decide) [1, 2, 3, 4, 5, 0, 6, 7] rfl ?_
  refine b_goto X (tgt := 18) d_S_widenFollowings_118 (by decide) ?_
  refine Lb.pick (lv' := [(0, .ref (xa σ 5)), (1, .int x1), (2, .long x2), (4, .int (x4 ||| 0)), (5, .long (r94 ||| x5)), (7, .int (x7 + (-1)))]) [0, 1, 2, 3, 4, 5] rfl ?_
  exact k
theorem sg_S_widenFollowings_18_ffft18 {K : KX} {G : GG} {w0 : va_W} {Q : State → Prop} (X : Bd K G w0 "FirstTrees$Study" c_S_widenFollowings 10 (some .boolean) rm_S_widenFollowings) (σ : St) (x1 : Int32) (x2 : Int64) (x4 : Int32) (x5 : Int64) (x7 : Int32) (n30 : Nat) (n60 : Nat) (r94 : Int64) (r100 : Int32) (c20 : ¬ x7 < 0) (e30 : ((x1 * 8) + x7) = nI n30) (h30 : n30 < 1024) (c40 : (b2i (0 ≤ (xi σ 4 n30))) = 0) (e60 : ((-1) - (xi σ 4 n30)) = nI n60) (h60 : n60 < 16) (c67 : ¬ (x5 &&& ((xl σ 9 n60) ^^^ (-1))) = 0) (t94 : Ct y_S_symbolFirst c_S_symbolFirst 2 (some .long) rm_S_symbolFirst G [.ref (xa σ 5), .int (xi σ 4 n30)] (WC G (wl σ 9 n60 ((xl σ 9 n60) ||| x5))) (eqp (some (.long r94)) (WC G (wl σ 9 n60 ((xl σ 9 n60) ||| x5))))) (t100 : Ct y_S_symbolIsNothing c_S_symbolIsNothing 2 (some .boolean) rm_S_symbolIsNothing G [.ref (xa σ 5), .int (xi σ 4 n30)] (WC G (wl σ 9 n60 ((xl σ 9 n60) ||| x5))) (eqp (some (.int r100)) (WC G (wl σ 9 n60 ((xl σ 9 n60) ||| x5))))) (c103 : r100 = 0) (k : Lb K G w0 Q 10 18 [(0, .ref (xa σ 5)), (1, .int x1), (2, .long x2), (4, .int (x4 ||| 1)), (5, .long (r94 ||| 0)), (7, .int (x7 + (-1)))] [] (WC G (wl σ 9 n60 ((xl σ 9 n60) ||| x5))) 0 0) : Lb K G w0 Q 10 18 [(0, .ref (xa σ 5)), (1, .int x1), (2, .long x2), (4, .int x4), (5, .long x5), (7, .int x7)] [] (WC G σ) 0 0 := by
  refine b_iload X d_S_widenFollowings_18 5 rfl ?_
  refine b_if_lt X (tgt := 121) d_S_widenFollowings_20 (by decide) (fun h => absurd h c20) (fun _ => ?_)
  refine b_aload_n X d_S_widenFollowings_23 0 rfl rfl ?_
  refine b_get X fl_S_25 5 rfl (v := .ref (xa σ 1)) rfl d_S_widenFollowings_24 ?_
  refine b_iload_n X d_S_widenFollowings_27 1 rfl rfl ?_
  refine b_iload X d_S_widenFollowings_28 5 rfl ?_
  refine b_dV X cf_G_symbolAt ci_G_symbolAt ml_S_90 (ct_G_symbolAt_ G σ x1 x7 n30 e30 h30) 1 rfl rfl (As := [.int x1, .int x7]) (rest := []) rfl (Nat.le_of_ble_eq_true rfl) ⟨Nat.le_of_ble_eq_true rfl, Nat.le_of_ble_eq_true rfl⟩ ⟨Nat.le_of_ble_eq_true rfl, Nat.le_of_ble_eq_true rfl⟩ rfl rfl d_S_widenFollowings_30 ?_
  refine b_istore X (lv' := [(0, .ref (xa σ 5)), (1, .int x1), (2, .long x2), (4, .int x4), (5, .long x5), (7, .int x7), (8, .int (xi σ 4 n30))]) d_S_widenFollowings_33 (by decide) [1, 2, 3, 4, 5, 6, 0] rfl ?_
  refine b_iload X d_S_widenFollowings_35 6 rfl ?_
  refine b_dS X cf_G_isToken ci_G_isToken ml_S_96 (ct_G_isToken G σ (xi σ 4 n30)) (As := [.int (xi σ 4 n30)]) (rest := []) rfl (Nat.le_of_ble_eq_true rfl) ⟨Nat.le_of_ble_eq_true rfl, Nat.le_of_ble_eq_true rfl⟩ ⟨Nat.le_of_ble_eq_true rfl, Nat.le_of_ble_eq_true rfl⟩ rfl rfl d_S_widenFollowings_37 ?_
  refine b_if_ne X (tgt := 91) d_S_widenFollowings_40 (by decide) (fun h => absurd c40 h) (fun _ => ?_)
  refine b_iload X d_S_widenFollowings_43 6 rfl ?_
  refine b_dS X cf_G_ruleOf ci_G_ruleOf ml_S_99 (ct_G_ruleOf_ G σ (xi σ 4 n30)) (As := [.int (xi σ 4 n30)]) (rest := []) rfl (Nat.le_of_ble_eq_true rfl) ⟨Nat.le_of_ble_eq_true rfl, Nat.le_of_ble_eq_true rfl⟩ ⟨Nat.le_of_ble_eq_true rfl, Nat.le_of_ble_eq_true rfl⟩ rfl rfl d_S_widenFollowings_45 ?_
  refine b_istore X (lv' := [(0, .ref (xa σ 5)), (1, .int x1), (2, .long x2), (4, .int x4), (5, .long x5), (7, .int x7), (8, .int (xi σ 4 n30)), (9, .int ((-1) - (xi σ 4 n30)))]) d_S_widenFollowings_48 (by decide) [1, 2, 3, 4, 5, 6, 7, 0] rfl ?_
  refine b_iload X d_S_widenFollowings_50 3 rfl ?_
  refine b_lload X d_S_widenFollowings_52 4 rfl ?_
  refine b_aload_n X d_S_widenFollowings_54 0 rfl rfl ?_
  refine b_get X fl_S_22 5 rfl (v := .ref (xa σ 9)) rfl d_S_widenFollowings_55 ?_
  refine b_iload X d_S_widenFollowings_58 7 rfl ?_
  refine b_lald X 9 rfl (by decide) n60 e60 h60 d_S_widenFollowings_60 ?_
  refine b_ldc2 X (v := (-1)) kl_S_126 d_S_widenFollowings_61 ?_
  refine b_lxor X d_S_widenFollowings_64 ?_
  refine b_land X d_S_widenFollowings_65 ?_
  refine b_lconst X (v := 0) d_S_widenFollowings_66 rfl ?_
  refine b_l_eq X (tgt := 75) d_S_widenFollowings_67 d_S_widenFollowings_68 (by decide) (fun h => absurd h c67) (fun _ => ?_)
  refine b_iconst X (v := 1) d_S_widenFollowings_71 (by decide) ?_
  refine b_goto X (tgt := 76) d_S_widenFollowings_72 (by decide) ?_
  refine b_ior X d_S_widenFollowings_76 ?_
  refine b_istore X (lv' := [(0, .ref (xa σ 5)), (1, .int x1), (2, .long x2), (4, .int (x4 ||| 1)), (5, .long x5), (7, .int x7), (8, .int (xi σ 4 n30)), (9, .int ((-1) - (xi σ 4 n30)))]) d_S_widenFollowings_77 (by decide) [1, 2, 3, 0, 4, 5, 6, 7] rfl ?_
  refine b_aload_n X d_S_widenFollowings_79 0 rfl rfl ?_
  refine b_get X fl_S_22 5 rfl (v := .ref (xa σ 9)) rfl d_S_widenFollowings_80 ?_
  refine b_iload X d_S_widenFollowings_83 7 rfl ?_
  refine b_dup2 X d_S_widenFollowings_85 rfl rfl ?_
  refine b_lald X 9 rfl (by decide) n60 e60 h60 d_S_widenFollowings_86 ?_
  refine b_lload X d_S_widenFollowings_87 4 rfl ?_
  refine b_lor X d_S_widenFollowings_89 ?_
  refine b_last X 9 rfl (by decide) n60 e60 h60 (uWC_9 G σ n60 ((xl σ 9 n60) ||| x5)) d_S_widenFollowings_90 ?_
  refine b_aload_n X d_S_widenFollowings_91 0 rfl rfl ?_
  refine b_iload X d_S_widenFollowings_92 6 rfl ?_
  refine b_dV X cf_S_symbolFirst ci_S_symbolFirst ml_S_117 t94 5 rfl rfl (As := [.int (xi σ 4 n30)]) (rest := []) rfl (Nat.le_of_ble_eq_true rfl) ⟨Nat.le_of_ble_eq_true rfl, Nat.le_of_ble_eq_true rfl⟩ ⟨Nat.le_of_ble_eq_true rfl, Nat.le_of_ble_eq_true rfl⟩ rfl rfl d_S_widenFollowings_94 ?_
  refine b_aload_n X d_S_widenFollowings_97 0 rfl rfl ?_
  refine b_iload X d_S_widenFollowings_98 6 rfl ?_
  refine b_dV X cf_S_symbolIsNothing ci_S_symbolIsNothing ml_S_93 t100 5 rfl rfl (As := [.int (xi σ 4 n30)]) (rest := [.long r94]) rfl (Nat.le_of_ble_eq_true rfl) ⟨Nat.le_of_ble_eq_true rfl, Nat.le_of_ble_eq_true rfl⟩ ⟨Nat.le_of_ble_eq_true rfl, Nat.le_of_ble_eq_true rfl⟩ rfl rfl d_S_widenFollowings_100 ?_
  refine b_if_eq X (tgt := 111) d_S_widenFollowings_103 (by decide) (fun _ => ?_) (fun h => absurd c103 h)
  refine b_lconst X (v := 0) d_S_widenFollowings_111 rfl ?_
  refine b_lor X d_S_widenFollowings_112 ?_
  refine b_lstore X (lv' := [(0, .ref (xa σ 5)), (1, .int x1), (2, .long x2), (4, .int (x4 ||| 1)), (5, .long (r94 ||| 0)), (7, .int x7), (8, .int (xi σ 4 n30)), (9, .int ((-1) - (xi σ 4 n30)))]) d_S_widenFollowings_113 (by decide) [1, 2, 3, 4, 0, 5, 6, 7] rfl ?_
  refine b_iinc X (lv' := [(0, .ref (xa σ 5)), (1, .int x1), (2, .long x2), (4, .int (x4 ||| 1)), (5, .long (r94 ||| 0)), (7, .int (x7 + (-1))), (8, .int (xi σ 4 n30)), (9, .int ((-1) - (xi σ 4 n30)))]) d_S_widenFollowings_115 5 rfl (v := (x7 + (-1))) rfl (by decide) [1, 2, 3, 4, 5, 0, 6, 7] rfl ?_
  refine b_goto X (tgt := 18) d_S_widenFollowings_118 (by decide) ?_
  refine Lb.pick (lv' := [(0, .ref (xa σ 5)), (1, .int x1), (2, .long x2), (4, .int (x4 ||| 1)), (5, .long (r94 ||| 0)), (7, .int (x7 + (-1)))]) [0, 1, 2, 3, 4, 5] rfl ?_
  exact k
theorem sg_S_widenFollowings_18_ffff18 {K : KX} {G : GG} {w0 : va_W} {Q : State → Prop} (X : Bd K G w0 "FirstTrees$Study" c_S_widenFollowings 10 (some .boolean) rm_S_widenFollowings) (σ : St) (x1 : Int32) (x2 : Int64) (x4 : Int32) (x5 : Int64) (x7 : Int32) (n30 : Nat) (n60 : Nat) (r94 : Int64) (r100 : Int32) (c20 : ¬ x7 < 0) (e30 : ((x1 * 8) + x7) = nI n30) (h30 : n30 < 1024) (c40 : (b2i (0 ≤ (xi σ 4 n30))) = 0) (e60 : ((-1) - (xi σ 4 n30)) = nI n60) (h60 : n60 < 16) (c67 : ¬ (x5 &&& ((xl σ 9 n60) ^^^ (-1))) = 0) (t94 : Ct y_S_symbolFirst c_S_symbolFirst 2 (some .long) rm_S_symbolFirst G [.ref (xa σ 5), .int (xi σ 4 n30)] (WC G (wl σ 9 n60 ((xl σ 9 n60) ||| x5))) (eqp (some (.long r94)) (WC G (wl σ 9 n60 ((xl σ 9 n60) ||| x5))))) (t100 : Ct y_S_symbolIsNothing c_S_symbolIsNothing 2 (some .boolean) rm_S_symbolIsNothing G [.ref (xa σ 5), .int (xi σ 4 n30)] (WC G (wl σ 9 n60 ((xl σ 9 n60) ||| x5))) (eqp (some (.int r100)) (WC G (wl σ 9 n60 ((xl σ 9 n60) ||| x5))))) (c103 : ¬ r100 = 0) (k : Lb K G w0 Q 10 18 [(0, .ref (xa σ 5)), (1, .int x1), (2, .long x2), (4, .int (x4 ||| 1)), (5, .long (r94 ||| x5)), (7, .int (x7 + (-1)))] [] (WC G (wl σ 9 n60 ((xl σ 9 n60) ||| x5))) 0 0) : Lb K G w0 Q 10 18 [(0, .ref (xa σ 5)), (1, .int x1), (2, .long x2), (4, .int x4), (5, .long x5), (7, .int x7)] [] (WC G σ) 0 0 := by
  refine b_iload X d_S_widenFollowings_18 5 rfl ?_
  refine b_if_lt X (tgt := 121) d_S_widenFollowings_20 (by decide) (fun h => absurd h c20) (fun _ => ?_)
  refine b_aload_n X d_S_widenFollowings_23 0 rfl rfl ?_
  refine b_get X fl_S_25 5 rfl (v := .ref (xa σ 1)) rfl d_S_widenFollowings_24 ?_
  refine b_iload_n X d_S_widenFollowings_27 1 rfl rfl ?_
  refine b_iload X d_S_widenFollowings_28 5 rfl ?_
  refine b_dV X cf_G_symbolAt ci_G_symbolAt ml_S_90 (ct_G_symbolAt_ G σ x1 x7 n30 e30 h30) 1 rfl rfl (As := [.int x1, .int x7]) (rest := []) rfl (Nat.le_of_ble_eq_true rfl) ⟨Nat.le_of_ble_eq_true rfl, Nat.le_of_ble_eq_true rfl⟩ ⟨Nat.le_of_ble_eq_true rfl, Nat.le_of_ble_eq_true rfl⟩ rfl rfl d_S_widenFollowings_30 ?_
  refine b_istore X (lv' := [(0, .ref (xa σ 5)), (1, .int x1), (2, .long x2), (4, .int x4), (5, .long x5), (7, .int x7), (8, .int (xi σ 4 n30))]) d_S_widenFollowings_33 (by decide) [1, 2, 3, 4, 5, 6, 0] rfl ?_
  refine b_iload X d_S_widenFollowings_35 6 rfl ?_
  refine b_dS X cf_G_isToken ci_G_isToken ml_S_96 (ct_G_isToken G σ (xi σ 4 n30)) (As := [.int (xi σ 4 n30)]) (rest := []) rfl (Nat.le_of_ble_eq_true rfl) ⟨Nat.le_of_ble_eq_true rfl, Nat.le_of_ble_eq_true rfl⟩ ⟨Nat.le_of_ble_eq_true rfl, Nat.le_of_ble_eq_true rfl⟩ rfl rfl d_S_widenFollowings_37 ?_
  refine b_if_ne X (tgt := 91) d_S_widenFollowings_40 (by decide) (fun h => absurd c40 h) (fun _ => ?_)
  refine b_iload X d_S_widenFollowings_43 6 rfl ?_
  refine b_dS X cf_G_ruleOf ci_G_ruleOf ml_S_99 (ct_G_ruleOf_ G σ (xi σ 4 n30)) (As := [.int (xi σ 4 n30)]) (rest := []) rfl (Nat.le_of_ble_eq_true rfl) ⟨Nat.le_of_ble_eq_true rfl, Nat.le_of_ble_eq_true rfl⟩ ⟨Nat.le_of_ble_eq_true rfl, Nat.le_of_ble_eq_true rfl⟩ rfl rfl d_S_widenFollowings_45 ?_
  refine b_istore X (lv' := [(0, .ref (xa σ 5)), (1, .int x1), (2, .long x2), (4, .int x4), (5, .long x5), (7, .int x7), (8, .int (xi σ 4 n30)), (9, .int ((-1) - (xi σ 4 n30)))]) d_S_widenFollowings_48 (by decide) [1, 2, 3, 4, 5, 6, 7, 0] rfl ?_
  refine b_iload X d_S_widenFollowings_50 3 rfl ?_
  refine b_lload X d_S_widenFollowings_52 4 rfl ?_
  refine b_aload_n X d_S_widenFollowings_54 0 rfl rfl ?_
  refine b_get X fl_S_22 5 rfl (v := .ref (xa σ 9)) rfl d_S_widenFollowings_55 ?_
  refine b_iload X d_S_widenFollowings_58 7 rfl ?_
  refine b_lald X 9 rfl (by decide) n60 e60 h60 d_S_widenFollowings_60 ?_
  refine b_ldc2 X (v := (-1)) kl_S_126 d_S_widenFollowings_61 ?_
  refine b_lxor X d_S_widenFollowings_64 ?_
  refine b_land X d_S_widenFollowings_65 ?_
  refine b_lconst X (v := 0) d_S_widenFollowings_66 rfl ?_
  refine b_l_eq X (tgt := 75) d_S_widenFollowings_67 d_S_widenFollowings_68 (by decide) (fun h => absurd h c67) (fun _ => ?_)
  refine b_iconst X (v := 1) d_S_widenFollowings_71 (by decide) ?_
  refine b_goto X (tgt := 76) d_S_widenFollowings_72 (by decide) ?_
  refine b_ior X d_S_widenFollowings_76 ?_
  refine b_istore X (lv' := [(0, .ref (xa σ 5)), (1, .int x1), (2, .long x2), (4, .int (x4 ||| 1)), (5, .long x5), (7, .int x7), (8, .int (xi σ 4 n30)), (9, .int ((-1) - (xi σ 4 n30)))]) d_S_widenFollowings_77 (by decide) [1, 2, 3, 0, 4, 5, 6, 7] rfl ?_
  refine b_aload_n X d_S_widenFollowings_79 0 rfl rfl ?_
  refine b_get X fl_S_22 5 rfl (v := .ref (xa σ 9)) rfl d_S_widenFollowings_80 ?_
  refine b_iload X d_S_widenFollowings_83 7 rfl ?_
  refine b_dup2 X d_S_widenFollowings_85 rfl rfl ?_
  refine b_lald X 9 rfl (by decide) n60 e60 h60 d_S_widenFollowings_86 ?_
  refine b_lload X d_S_widenFollowings_87 4 rfl ?_
  refine b_lor X d_S_widenFollowings_89 ?_
  refine b_last X 9 rfl (by decide) n60 e60 h60 (uWC_9 G σ n60 ((xl σ 9 n60) ||| x5)) d_S_widenFollowings_90 ?_
  refine b_aload_n X d_S_widenFollowings_91 0 rfl rfl ?_
  refine b_iload X d_S_widenFollowings_92 6 rfl ?_
  refine b_dV X cf_S_symbolFirst ci_S_symbolFirst ml_S_117 t94 5 rfl rfl (As := [.int (xi σ 4 n30)]) (rest := []) rfl (Nat.le_of_ble_eq_true rfl) ⟨Nat.le_of_ble_eq_true rfl, Nat.le_of_ble_eq_true rfl⟩ ⟨Nat.le_of_ble_eq_true rfl, Nat.le_of_ble_eq_true rfl⟩ rfl rfl d_S_widenFollowings_94 ?_
  refine b_aload_n X d_S_widenFollowings_97 0 rfl rfl ?_
  refine b_iload X d_S_widenFollowings_98 6 rfl ?_
  refine b_dV X cf_S_symbolIsNothing ci_S_symbolIsNothing ml_S_93 t100 5 rfl rfl (As := [.int (xi σ 4 n30)]) (rest := [.long r94]) rfl (Nat.le_of_ble_eq_true rfl) ⟨Nat.le_of_ble_eq_true rfl, Nat.le_of_ble_eq_true rfl⟩ ⟨Nat.le_of_ble_eq_true rfl, Nat.le_of_ble_eq_true rfl⟩ rfl rfl d_S_widenFollowings_100 ?_
  refine b_if_eq X (tgt := 111) d_S_widenFollowings_103 (by decide) (fun h => absurd h c103) (fun _ => ?_)
  refine b_lload X d_S_widenFollowings_106 4 rfl ?_
  refine b_goto X (tgt := 112) d_S_widenFollowings_108 (by decide) ?_
  refine b_lor X d_S_widenFollowings_112 ?_
  refine b_lstore X (lv' := [(0, .ref (xa σ 5)), (1, .int x1), (2, .long x2), (4, .int (x4 ||| 1)), (5, .long (r94 ||| x5)), (7, .int x7), (8, .int (xi σ 4 n30)), (9, .int ((-1) - (xi σ 4 n30)))]) d_S_widenFollowings_113 (by decide) [1, 2, 3, 4, 0, 5, 6, 7] rfl ?_
  refine b_iinc X (lv' := [(0, .ref (xa σ 5)), (1, .int x1), (2, .long x2), (4, .int (x4 ||| 1)), (5, .long (r94 ||| x5)), (7, .int (x7 + (-1))), (8, .int (xi σ 4 n30)), (9, .int ((-1) - (xi σ 4 n30)))]) d_S_widenFollowings_115 5 rfl (v := (x7 + (-1))) rfl (by decide) [1, 2, 3, 4, 5, 0, 6, 7] rfl ?_
  refine b_goto X (tgt := 18) d_S_widenFollowings_118 (by decide) ?_
  refine Lb.pick (lv' := [(0, .ref (xa σ 5)), (1, .int x1), (2, .long x2), (4, .int (x4 ||| 1)), (5, .long (r94 ||| x5)), (7, .int (x7 + (-1)))]) [0, 1, 2, 3, 4, 5] rfl ?_
  exact k
theorem sg_G_rulesIn_0_4 {K : KX} {G : GG} {w0 : va_W} {Q : State → Prop} (X : Bd K G w0 "FirstTrees$Grammar" c_G_rulesIn 4 (some .int) rm_G_rulesIn) (σ : St) (x1 : Int32)   (k : Lb K G w0 Q 4 4 [(0, .ref (xa σ 1)), (1, .int x1), (2, .int 0), (3, .int 0)] [] (WC G σ) 0 0) : Lb K G w0 Q 4 0 [(0, .ref (xa σ 1)), (1, .int x1)] [] (WC G σ) 0 0 := by
  refine b_iconst X (v := 0) d_G_rulesIn_0 (by decide) ?_
  refine b_istore_n X (lv' := [(0, .ref (xa σ 1)), (1, .int x1), (2, .int 0)]) d_G_rulesIn_1 rfl (by decide) [1, 2, 0] rfl ?_
  refine b_iconst X (v := 0) d_G_rulesIn_2 (by decide) ?_
  refine b_istore_n X (lv' := [(0, .ref (xa σ 1)), (1, .int x1), (2, .int 0), (3, .int 0)]) d_G_rulesIn_3 rfl (by decide) [1, 2, 3, 0] rfl ?_
  exact k
theorem sg_G_rulesIn_4_tr {K : KX} {G : GG} {w0 : va_W} {post : PostT} (X : Bd K G w0 "FirstTrees$Grammar" c_G_rulesIn 4 (some .int) rm_G_rulesIn) (σ : St) (x1 : Int32) (x2 : Int32) (x3 : Int32) (n10 : Nat) (e10 : x1 = nI n10) (h10 : n10 < 128) (c11 : (xi σ 3 n10) ≤ x3) (hp : post (some (.int x2)) (WC G σ)) : Lb K G w0 (Qe K G w0 post rm_G_rulesIn) 4 4 [(0, .ref (xa σ 1)), (1, .int x1), (2, .int x2), (3, .int x3)] [] (WC G σ) 0 0 := by
  refine b_iload_n X d_G_rulesIn_4 3 rfl rfl ?_
  refine b_aload_n X d_G_rulesIn_5 0 rfl rfl ?_
  refine b_get X fl_G_15 1 rfl (v := .ref (xa σ 3)) rfl d_G_rulesIn_6 ?_
  refine b_iload_n X d_G_rulesIn_9 1 rfl rfl ?_
  refine b_iald X 3 rfl (by decide) n10 e10 h10 d_G_rulesIn_10 ?_
  refine b_icmp_ge X (tgt := 35) d_G_rulesIn_11 (by decide) (fun _ => ?_) (fun h => absurd c11 h)
  refine b_iload_n X d_G_rulesIn_35 2 rfl rfl ?_
  exact b_iret X d_G_rulesIn_36 hp
theorem sg_G_rulesIn_4_ft4 {K : KX} {G : GG} {w0 : va_W} {Q : State → Prop} (X : Bd K G w0 "FirstTrees$Grammar" c_G_rulesIn 4 (some .int) rm_G_rulesIn) (σ : St) (x1 : Int32) (x2 : Int32) (x3 : Int32) (n10 : Nat) (n17 : Nat) (e10 : x1 = nI n10) (h10 : n10 < 128) (c11 : ¬ (xi σ 3 n10) ≤ x3) (e17 : ((x1 * 8) + x3) = nI n17) (h17 : n17 < 1024) (c23 : ¬ (b2i (0 ≤ (xi σ 4 n17))) = 0) (k : Lb K G w0 Q 4 4 [(0, .ref (xa σ 1)), (1, .int x1), (2, .int x2), (3, .int (x3 + 1))] [] (WC G σ) 0 0) : Lb K G w0 Q 4 4 [(0, .ref (xa σ 1)), (1, .int x1), (2, .int x2), (3, .int x3)] [] (WC G σ) 0 0 := by
  refine b_iload_n X d_G_rulesIn_4 3 rfl rfl ?_
  refine b_aload_n X d_G_rulesIn_5 0 rfl rfl ?_
  refine b_get X fl_G_15 1 rfl (v := .ref (xa σ 3)) rfl d_G_rulesIn_6 ?_
  refine b_iload_n X d_G_rulesIn_9 1 rfl rfl ?_
  refine b_iald X 3 rfl (by decide) n10 e10 h10 d_G_rulesIn_10 ?_
  refine b_icmp_ge X (tgt := 35) d_G_rulesIn_11 (by decide) (fun h => absurd h c11) (fun _ => ?_)
  refine b_aload_n X d_G_rulesIn_14 0 rfl rfl ?_
  refine b_iload_n X d_G_rulesIn_15 1 rfl rfl ?_
  refine b_iload_n X d_G_rulesIn_16 3 rfl rfl ?_
  refine b_dV X cf_G_symbolAt ci_G_symbolAt ml_G_33 (ct_G_symbolAt_ G σ x1 x3 n17 e17 h17) 1 rfl rfl (As := [.int x1, .int x3]) (rest := []) rfl (Nat.le_of_ble_eq_true rfl) ⟨Nat.le_of_ble_eq_true rfl, Nat.le_of_ble_eq_true rfl⟩ ⟨Nat.le_of_ble_eq_true rfl, Nat.le_of_ble_eq_true rfl⟩ rfl rfl d_G_rulesIn_17 ?_
  refine b_dS X cf_G_isToken ci_G_isToken ml_G_36 (ct_G_isToken G σ (xi σ 4 n17)) (As := [.int (xi σ 4 n17)]) (rest := []) rfl (Nat.le_of_ble_eq_true rfl) ⟨Nat.le_of_ble_eq_true rfl, Nat.le_of_ble_eq_true rfl⟩ ⟨Nat.le_of_ble_eq_true rfl, Nat.le_of_ble_eq_true rfl⟩ rfl rfl d_G_rulesIn_20 ?_
  refine b_if_ne X (tgt := 29) d_G_rulesIn_23 (by decide) (fun _ => ?_) (fun h => absurd h c23)
  refine b_iinc X (lv' := [(0, .ref (xa σ 1)), (1, .int x1), (2, .int x2), (3, .int (x3 + 1))]) d_G_rulesIn_29 3 rfl (v := (x3 + 1)) rfl (by decide) [1, 2, 3, 0] rfl ?_
  refine b_goto X (tgt := 4) d_G_rulesIn_32 (by decide) ?_
  exact k
theorem sg_G_rulesIn_4_ff4 {K : KX} {G : GG} {w0 : va_W} {Q : State → Prop} (X : Bd K G w0 "FirstTrees$Grammar" c_G_rulesIn 4 (some .int) rm_G_rulesIn) (σ : St) (x1 : Int32) (x2 : Int32) (x3 : Int32) (n10 : Nat) (n17 : Nat) (e10 : x1 = nI n10) (h10 : n10 < 128) (c11 : ¬ (xi σ 3 n10) ≤ x3) (e17 : ((x1 * 8) + x3) = nI n17) (h17 : n17 < 1024) (c23 : (b2i (0 ≤ (xi σ 4 n17))) = 0) (k : Lb K G w0 Q 4 4 [(0, .ref (xa σ 1)), (1, .int x1), (2, .int (x2 + 1)), (3, .int (x3 + 1))] [] (WC G σ) 0 0) : Lb K G w0 Q 4 4 [(0, .ref (xa σ 1)), (1, .int x1), (2, .int x2), (3, .int x3)] [] (WC G σ) 0 0 := by
  refine b_iload_n X d_G_rulesIn_4 3 rfl rfl ?_
  refine b_aload_n X d_G_rulesIn_5 0 rfl rfl ?_
  refine b_get X fl_G_15 1 rfl (v := .ref (xa σ 3)) rfl d_G_rulesIn_6 ?_
  refine b_iload_n X d_G_rulesIn_9 1 rfl rfl ?_
  refine b_iald X 3 rfl (by decide) n10 e10 h10 d_G_rulesIn_10 ?_
  refine b_icmp_ge X (tgt := 35) d_G_rulesIn_11 (by decide) (fun h => absurd h c11) (fun _ => ?_)
  refine b_aload_n X d_G_rulesIn_14 0 rfl rfl ?_
  refine b_iload_n X d_G_rulesIn_15 1 rfl rfl ?_
  refine b_iload_n X d_G_rulesIn_16 3 rfl rfl ?_
  refine b_dV X cf_G_symbolAt ci_G_symbolAt ml_G_33 (ct_G_symbolAt_ G σ x1 x3 n17 e17 h17) 1 rfl rfl (As := [.int x1, .int x3]) (rest := []) rfl (Nat.le_of_ble_eq_true rfl) ⟨Nat.le_of_ble_eq_true rfl, Nat.le_of_ble_eq_true rfl⟩ ⟨Nat.le_of_ble_eq_true rfl, Nat.le_of_ble_eq_true rfl⟩ rfl rfl d_G_rulesIn_17 ?_
  refine b_dS X cf_G_isToken ci_G_isToken ml_G_36 (ct_G_isToken G σ (xi σ 4 n17)) (As := [.int (xi σ 4 n17)]) (rest := []) rfl (Nat.le_of_ble_eq_true rfl) ⟨Nat.le_of_ble_eq_true rfl, Nat.le_of_ble_eq_true rfl⟩ ⟨Nat.le_of_ble_eq_true rfl, Nat.le_of_ble_eq_true rfl⟩ rfl rfl d_G_rulesIn_20 ?_
  refine b_if_ne X (tgt := 29) d_G_rulesIn_23 (by decide) (fun h => absurd c23 h) (fun _ => ?_)
  refine b_iinc X (lv' := [(0, .ref (xa σ 1)), (1, .int x1), (2, .int (x2 + 1)), (3, .int x3)]) d_G_rulesIn_26 2 rfl (v := (x2 + 1)) rfl (by decide) [1, 2, 0, 3] rfl ?_
  refine b_iinc X (lv' := [(0, .ref (xa σ 1)), (1, .int x1), (2, .int (x2 + 1)), (3, .int (x3 + 1))]) d_G_rulesIn_29 3 rfl (v := (x3 + 1)) rfl (by decide) [1, 2, 3, 0] rfl ?_
  refine b_goto X (tgt := 4) d_G_rulesIn_32 (by decide) ?_
  exact k
theorem sg26_T_findEnds_0_7 {K : KX} {G : GG} {w0 : va_W} {Q : State → Prop} (X : Bd K G w0 "FirstTrees$Tree" c_T_findEnds 5 none rm_T_findEnds) (σ : St)    (k : Lb K G w0 Q 5 7 [(0, .ref (xa σ 26)), (1, .int ((xi σ 26 0) - 1))] [] (WC G σ) 0 0) : Lb K G w0 Q 5 0 [(0, .ref (xa σ 26))] [] (WC G σ) 0 0 := by
  refine b_aload_n X d_T_findEnds_0 0 rfl rfl ?_
  refine b_get X fl_T_15 26 rfl (v := .int (xi σ 26 0)) rfl d_T_findEnds_1 ?_
  refine b_iconst X (v := 1) d_T_findEnds_4 (by decide) ?_
  refine b_isub X d_T_findEnds_5 ?_
  refine b_istore_n X (lv' := [(0, .ref (xa σ 26)), (1, .int ((xi σ 26 0) - 1))]) d_T_findEnds_6 rfl (by decide) [1, 0] rfl ?_
  exact k
theorem sg26_T_findEnds_7_tr {K : KX} {G : GG} {w0 : va_W} {post : PostT} (X : Bd K G w0 "FirstTrees$Tree" c_T_findEnds 5 none rm_T_findEnds) (σ : St) (x1 : Int32)  (c8 : x1 < 0) (hp : post none (WC G σ)) : Lb K G w0 (Qe K G w0 post rm_T_findEnds) 5 7 [(0, .ref (xa σ 26)), (1, .int x1)] [] (WC G σ) 0 0 := by
  refine b_iload_n X d_T_findEnds_7 1 rfl rfl ?_
  refine b_if_lt X (tgt := 81) d_T_findEnds_8 (by decide) (fun _ => ?_) (fun h => absurd c8 h)
  exact b_vret X d_T_findEnds_81 hp
theorem sg26_T_findEnds_7_ft7 {K : KX} {G : GG} {w0 : va_W} {Q : State → Prop} (X : Bd K G w0 "FirstTrees$Tree" c_T_findEnds 5 none rm_T_findEnds) (σ : St) (x1 : Int32) (n23 : Nat) (n32 : Nat) (n71 : Nat) (c8 : ¬ x1 < 0) (e23 : ((x1 * 7) + 3) = nI n23) (h23 : n23 < 14000) (e32 : ((x1 * 7) + 4) = nI n32) (h32 : n32 < 14000) (c38 : (xi σ 27 n32) = (-1)) (e71 : ((x1 * 7) + 2) = nI n71) (h71 : n71 < 14000) (k : Lb K G w0 Q 5 7 [(0, .ref (xa σ 26)), (1, .int (x1 + (-1)))] [] (WC G (wi σ 27 n23 ((xi σ 27 n71) + (xi σ 27 n23)))) 0 0) : Lb K G w0 Q 5 7 [(0, .ref (xa σ 26)), (1, .int x1)] [] (WC G σ) 0 0 := by
  refine b_iload_n X d_T_findEnds_7 1 rfl rfl ?_
  refine b_if_lt X (tgt := 81) d_T_findEnds_8 (by decide) (fun h => absurd h c8) (fun _ => ?_)
  refine b_iload_n X d_T_findEnds_11 1 rfl rfl ?_
  refine b_bipush X (v := 7) d_T_findEnds_12 (by decide) ?_
  refine b_imul X d_T_findEnds_14 ?_
  refine b_istore_n X (lv' := [(0, .ref (xa σ 26)), (1, .int x1), (2, .int (x1 * 7))]) d_T_findEnds_15 rfl (by decide) [1, 2, 0] rfl ?_
  refine b_aload_n X d_T_findEnds_16 0 rfl rfl ?_
  refine b_get X fl_T_11 26 rfl (v := .ref (xa σ 27)) rfl d_T_findEnds_17 ?_
  refine b_iload_n X d_T_findEnds_20 2 rfl rfl ?_
  refine b_iconst X (v := 3) d_T_findEnds_21 (by decide) ?_
  refine b_iadd X d_T_findEnds_22 ?_
  refine b_iald X 27 rfl (by decide) n23 e23 h23 d_T_findEnds_23 ?_
  refine b_istore_n X (lv' := [(0, .ref (xa σ 26)), (1, .int x1), (2, .int (x1 * 7)), (3, .int (xi σ 27 n23))]) d_T_findEnds_24 rfl (by decide) [1, 2, 3, 0] rfl ?_
  refine b_aload_n X d_T_findEnds_25 0 rfl rfl ?_
  refine b_get X fl_T_11 26 rfl (v := .ref (xa σ 27)) rfl d_T_findEnds_26 ?_
  refine b_iload_n X d_T_findEnds_29 2 rfl rfl ?_
  refine b_iconst X (v := 4) d_T_findEnds_30 (by decide) ?_
  refine b_iadd X d_T_findEnds_31 ?_
  refine b_iald X 27 rfl (by decide) n32 e32 h32 d_T_findEnds_32 ?_
  refine b_istore X (lv' := [(0, .ref (xa σ 26)), (1, .int x1), (2, .int (x1 * 7)), (3, .int (xi σ 27 n23)), (4, .int (xi σ 27 n32))]) d_T_findEnds_33 (by decide) [1, 2, 3, 4, 0] rfl ?_
  refine b_iload X d_T_findEnds_35 4 rfl ?_
  refine b_iconst X (v := (-1)) d_T_findEnds_37 (by decide) ?_
  refine b_icmp_eq X (tgt := 57) d_T_findEnds_38 (by decide) (fun _ => ?_) (fun h => absurd c38 h)
  refine b_aload_n X d_T_findEnds_57 0 rfl rfl ?_
  refine b_get X fl_T_11 26 rfl (v := .ref (xa σ 27)) rfl d_T_findEnds_58 ?_
  refine b_iload_n X d_T_findEnds_61 2 rfl rfl ?_
  refine b_iconst X (v := 3) d_T_findEnds_62 (by decide) ?_
  refine b_iadd X d_T_findEnds_63 ?_
  refine b_aload_n X d_T_findEnds_64 0 rfl rfl ?_
  refine b_get X fl_T_11 26 rfl (v := .ref (xa σ 27)) rfl d_T_findEnds_65 ?_
  refine b_iload_n X d_T_findEnds_68 2 rfl rfl ?_
  refine b_iconst X (v := 2) d_T_findEnds_69 (by decide) ?_
  refine b_iadd X d_T_findEnds_70 ?_
  refine b_iald X 27 rfl (by decide) n71 e71 h71 d_T_findEnds_71 ?_
  refine b_iload_n X d_T_findEnds_72 3 rfl rfl ?_
  refine b_iadd X d_T_findEnds_73 ?_
  refine b_iast X 27 rfl (by decide) n23 e23 h23 (uWC_27 G σ n23 ((xi σ 27 n71) + (xi σ 27 n23))) d_T_findEnds_74 ?_
  refine b_iinc X (lv' := [(0, .ref (xa σ 26)), (1, .int (x1 + (-1))), (2, .int (x1 * 7)), (3, .int (xi σ 27 n23)), (4, .int (xi σ 27 n32))]) d_T_findEnds_75 1 rfl (v := (x1 + (-1))) rfl (by decide) [1, 0, 2, 3, 4] rfl ?_
  refine b_goto X (tgt := 7) d_T_findEnds_78 (by decide) ?_
  refine Lb.pick (lv' := [(0, .ref (xa σ 26)), (1, .int (x1 + (-1)))]) [0, 1] rfl ?_
  exact k
theorem sg26_T_findEnds_7_ff7 {K : KX} {G : GG} {w0 : va_W} {Q : State → Prop} (X : Bd K G w0 "FirstTrees$Tree" c_T_findEnds 5 none rm_T_findEnds) (σ : St) (x1 : Int32) (n23 : Nat) (n32 : Nat) (n53 : Nat) (n71 : Nat) (c8 : ¬ x1 < 0) (e23 : ((x1 * 7) + 3) = nI n23) (h23 : n23 < 14000) (e32 : ((x1 * 7) + 4) = nI n32) (h32 : n32 < 14000) (c38 : ¬ (xi σ 27 n32) = (-1)) (e53 : (((xi σ 27 n32) * 7) + 3) = nI n53) (h53 : n53 < 14000) (e71 : ((x1 * 7) + 2) = nI n71) (h71 : n71 < 14000) (k : Lb K G w0 Q 5 7 [(0, .ref (xa σ 26)), (1, .int (x1 + (-1)))] [] (WC G (wi (wi σ 27 n53 ((xi σ 27 n53) + (xi σ 27 n23))) 27 n23 ((xi (wi σ 27 n53 ((xi σ 27 n53) + (xi σ 27 n23))) 27 n71) + (xi σ 27 n23)))) 0 0) : Lb K G w0 Q 5 7 [(0, .ref (xa σ 26)), (1, .int x1)] [] (WC G σ) 0 0 := by
  refine b_iload_n X d_T_findEnds_7 1 rfl rfl ?_
  refine b_if_lt X (tgt := 81) d_T_findEnds_8 (by decide) (fun h => absurd h c8) (fun _ => ?_)
  refine b_iload_n X d_T_findEnds_11 1 rfl rfl ?_
  refine b_bipush X (v := 7) d_T_findEnds_12 (by decide) ?_
  refine b_imul X d_T_findEnds_14 ?_
  refine b_istore_n X (lv' := [(0, .ref (xa σ 26)), (1, .int x1), (2, .int (x1 * 7))]) d_T_findEnds_15 rfl (by decide) [1, 2, 0] rfl ?_
  refine b_aload_n X d_T_findEnds_16 0 rfl rfl ?_
  refine b_get X fl_T_11 26 rfl (v := .ref (xa σ 27)) rfl d_T_findEnds_17 ?_
  refine b_iload_n X d_T_findEnds_20 2 rfl rfl ?_
  refine b_iconst X (v := 3) d_T_findEnds_21 (by decide) ?_
  refine b_iadd X d_T_findEnds_22 ?_
  refine b_iald X 27 rfl (by decide) n23 e23 h23 d_T_findEnds_23 ?_
  refine b_istore_n X (lv' := [(0, .ref (xa σ 26)), (1, .int x1), (2, .int (x1 * 7)), (3, .int (xi σ 27 n23))]) d_T_findEnds_24 rfl (by decide) [1, 2, 3, 0] rfl ?_
  refine b_aload_n X d_T_findEnds_25 0 rfl rfl ?_
  refine b_get X fl_T_11 26 rfl (v := .ref (xa σ 27)) rfl d_T_findEnds_26 ?_
  refine b_iload_n X d_T_findEnds_29 2 rfl rfl ?_
  refine b_iconst X (v := 4) d_T_findEnds_30 (by decide) ?_
  refine b_iadd X d_T_findEnds_31 ?_
  refine b_iald X 27 rfl (by decide) n32 e32 h32 d_T_findEnds_32 ?_
  refine b_istore X (lv' := [(0, .ref (xa σ 26)), (1, .int x1), (2, .int (x1 * 7)), (3, .int (xi σ 27 n23)), (4, .int (xi σ 27 n32))]) d_T_findEnds_33 (by decide) [1, 2, 3, 4, 0] rfl ?_
  refine b_iload X d_T_findEnds_35 4 rfl ?_
  refine b_iconst X (v := (-1)) d_T_findEnds_37 (by decide) ?_
  refine b_icmp_eq X (tgt := 57) d_T_findEnds_38 (by decide) (fun h => absurd h c38) (fun _ => ?_)
  refine b_aload_n X d_T_findEnds_41 0 rfl rfl ?_
  refine b_get X fl_T_11 26 rfl (v := .ref (xa σ 27)) rfl d_T_findEnds_42 ?_
  refine b_iload X d_T_findEnds_45 4 rfl ?_
  refine b_bipush X (v := 7) d_T_findEnds_47 (by decide) ?_
  refine b_imul X d_T_findEnds_49 ?_
  refine b_iconst X (v := 3) d_T_findEnds_50 (by decide) ?_
  refine b_iadd X d_T_findEnds_51 ?_
  refine b_dup2 X d_T_findEnds_52 rfl rfl ?_
  refine b_iald X 27 rfl (by decide) n53 e53 h53 d_T_findEnds_53 ?_
  refine b_iload_n X d_T_findEnds_54 3 rfl rfl ?_
  refine b_iadd X d_T_findEnds_55 ?_
  refine b_iast X 27 rfl (by decide) n53 e53 h53 (uWC_27 G σ n53 ((xi σ 27 n53) + (xi σ 27 n23))) d_T_findEnds_56 ?_
  refine b_aload_n X d_T_findEnds_57 0 rfl rfl ?_
  refine b_get X fl_T_11 26 rfl (v := .ref (xa σ 27)) rfl d_T_findEnds_58 ?_
  refine b_iload_n X d_T_findEnds_61 2 rfl rfl ?_
  refine b_iconst X (v := 3) d_T_findEnds_62 (by decide) ?_
  refine b_iadd X d_T_findEnds_63 ?_
  refine b_aload_n X d_T_findEnds_64 0 rfl rfl ?_
  refine b_get X fl_T_11 26 rfl (v := .ref (xa σ 27)) rfl d_T_findEnds_65 ?_
  refine b_iload_n X d_T_findEnds_68 2 rfl rfl ?_
  refine b_iconst X (v := 2) d_T_findEnds_69 (by decide) ?_
  refine b_iadd X d_T_findEnds_70 ?_
  refine b_iald X 27 rfl (by decide) n71 e71 h71 d_T_findEnds_71 ?_
  refine b_iload_n X d_T_findEnds_72 3 rfl rfl ?_
  refine b_iadd X d_T_findEnds_73 ?_
  refine b_iast X 27 rfl (by decide) n23 e23 h23 (uWC_27 G (wi σ 27 n53 ((xi σ 27 n53) + (xi σ 27 n23))) n23 ((xi (wi σ 27 n53 ((xi σ 27 n53) + (xi σ 27 n23))) 27 n71) + (xi σ 27 n23))) d_T_findEnds_74 ?_
  refine b_iinc X (lv' := [(0, .ref (xa σ 26)), (1, .int (x1 + (-1))), (2, .int (x1 * 7)), (3, .int (xi σ 27 n23)), (4, .int (xi σ 27 n32))]) d_T_findEnds_75 1 rfl (v := (x1 + (-1))) rfl (by decide) [1, 0, 2, 3, 4] rfl ?_
  refine b_goto X (tgt := 7) d_T_findEnds_78 (by decide) ?_
  refine Lb.pick (lv' := [(0, .ref (xa σ 26)), (1, .int (x1 + (-1)))]) [0, 1] rfl ?_
  exact k
