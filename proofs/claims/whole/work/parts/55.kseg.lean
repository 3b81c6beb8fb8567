/-! segments of the walk, by program -/
theorem sg_K_farthest_0_7 {K : KX} {G : GG} {w0 : va_W} {Q : State → Prop} (X : Bd K G w0 "FirstTrees$Walk" c_K_farthest 8 (some .int) rm_K_farthest) (σ : St) (x1 : Int32) (x2 : Int64) (x4 : Int32) (m5 : Nat)  (hm5 : m5 < xn σ)  (k : Lb K G w0 Q 8 7 [(0, .ref (xa σ 22)), (1, .int x1), (2, .long x2), (4, .int x4), (5, .ref (xa σ (29 + 2 * m5))), (6, .int x1), (7, .int x4)] [] (WC G σ) 0 0) : Lb K G w0 Q 8 0 [(0, .ref (xa σ 22)), (1, .int x1), (2, .long x2), (4, .int x4), (5, .ref (xa σ (29 + 2 * m5)))] [] (WC G σ) 0 0 := by
  refine b_iload_n X d_K_farthest_0 1 rfl rfl ?_
  refine b_istore X (lv' := [(0, .ref (xa σ 22)), (1, .int x1), (2, .long x2), (4, .int x4), (5, .ref (xa σ (29 + 2 * m5))), (6, .int x1)]) d_K_farthest_1 (by decide) [1, 2, 3, 4, 5, 0] rfl ?_
  refine b_iload X d_K_farthest_3 3 rfl ?_
  refine b_istore X (lv' := [(0, .ref (xa σ 22)), (1, .int x1), (2, .long x2), (4, .int x4), (5, .ref (xa σ (29 + 2 * m5))), (6, .int x1), (7, .int x4)]) d_K_farthest_5 (by decide) [1, 2, 3, 4, 5, 6, 0] rfl ?_
  exact k
theorem sg_K_farthest_7_tr {K : KX} {G : GG} {w0 : va_W} {post : PostT} (X : Bd K G w0 "FirstTrees$Walk" c_K_farthest 8 (some .int) rm_K_farthest) (σ : St) (x1 : Int32) (x2 : Int64) (x4 : Int32) (x6 : Int32) (x7 : Int32) (m5 : Nat)  (hm5 : m5 < xn σ) (c16 : (xi σ 12 0) < x7) (hp : post (some (.int x6)) (WC G σ)) : Lb K G w0 (Qe K G w0 post rm_K_farthest) 8 7 [(0, .ref (xa σ 22)), (1, .int x1), (2, .long x2), (4, .int x4), (5, .ref (xa σ (29 + 2 * m5))), (6, .int x6), (7, .int x7)] [] (WC G σ) 0 0 := by
  refine b_iload X d_K_farthest_7 6 rfl ?_
  refine b_aload_n X d_K_farthest_9 0 rfl rfl ?_
  refine b_get X fl_K_25 22 rfl (v := .ref (xa σ 12)) rfl d_K_farthest_10 ?_
  refine b_dV X cf_C_end ci_C_end ml_K_107 (ct_C_end_ G σ ) 12 rfl rfl (As := []) (rest := [.int x7]) rfl (Nat.le_of_ble_eq_true rfl) ⟨Nat.le_of_ble_eq_true rfl, Nat.le_of_ble_eq_true rfl⟩ ⟨Nat.le_of_ble_eq_true rfl, Nat.le_of_ble_eq_true rfl⟩ rfl rfl d_K_farthest_13 ?_
  refine b_icmp_gt X (tgt := 58) d_K_farthest_16 (by decide) (fun _ => ?_) (fun h => absurd c16 h)
  refine b_iload X d_K_farthest_58 5 rfl ?_
  exact b_iret X d_K_farthest_60 hp
theorem sg_K_farthest_7_ftr {K : KX} {G : GG} {w0 : va_W} {post : PostT} (X : Bd K G w0 "FirstTrees$Walk" c_K_farthest 8 (some .int) rm_K_farthest) (σ : St) (x1 : Int32) (x2 : Int64) (x4 : Int32) (x6 : Int32) (x7 : Int32) (m5 : Nat)  (hm5 : m5 < xn σ) (c16 : ¬ (xi σ 12 0) < x7) (c28 : (xi σ 12 0) < x6) (hp : post (some (.int x6)) (WC G σ)) : Lb K G w0 (Qe K G w0 post rm_K_farthest) 8 7 [(0, .ref (xa σ 22)), (1, .int x1), (2, .long x2), (4, .int x4), (5, .ref (xa σ (29 + 2 * m5))), (6, .int x6), (7, .int x7)] [] (WC G σ) 0 0 := by
  refine b_iload X d_K_farthest_7 6 rfl ?_
  refine b_aload_n X d_K_farthest_9 0 rfl rfl ?_
  refine b_get X fl_K_25 22 rfl (v := .ref (xa σ 12)) rfl d_K_farthest_10 ?_
  refine b_dV X cf_C_end ci_C_end ml_K_107 (ct_C_end_ G σ ) 12 rfl rfl (As := []) (rest := [.int x7]) rfl (Nat.le_of_ble_eq_true rfl) ⟨Nat.le_of_ble_eq_true rfl, Nat.le_of_ble_eq_true rfl⟩ ⟨Nat.le_of_ble_eq_true rfl, Nat.le_of_ble_eq_true rfl⟩ rfl rfl d_K_farthest_13 ?_
  refine b_icmp_gt X (tgt := 58) d_K_farthest_16 (by decide) (fun h => absurd h c16) (fun _ => ?_)
  refine b_iload X d_K_farthest_19 5 rfl ?_
  refine b_aload_n X d_K_farthest_21 0 rfl rfl ?_
  refine b_get X fl_K_25 22 rfl (v := .ref (xa σ 12)) rfl d_K_farthest_22 ?_
  refine b_dV X cf_C_end ci_C_end ml_K_107 (ct_C_end_ G σ ) 12 rfl rfl (As := []) (rest := [.int x6]) rfl (Nat.le_of_ble_eq_true rfl) ⟨Nat.le_of_ble_eq_true rfl, Nat.le_of_ble_eq_true rfl⟩ ⟨Nat.le_of_ble_eq_true rfl, Nat.le_of_ble_eq_true rfl⟩ rfl rfl d_K_farthest_25 ?_
  refine b_icmp_gt X (tgt := 58) d_K_farthest_28 (by decide) (fun _ => ?_) (fun h => absurd c28 h)
  refine b_iload X d_K_farthest_58 5 rfl ?_
  exact b_iret X d_K_farthest_60 hp
theorem sg_K_farthest_7_fft7 {K : KX} {G : GG} {w0 : va_W} {Q : State → Prop} (X : Bd K G w0 "FirstTrees$Walk" c_K_farthest 8 (some .int) rm_K_farthest) (σ : St) (x1 : Int32) (x2 : Int64) (x4 : Int32) (x6 : Int32) (x7 : Int32) (m5 : Nat)  (hm5 : m5 < xn σ) (c16 : ¬ (xi σ 12 0) < x7) (c28 : ¬ (xi σ 12 0) < x6) (c37 : (hasB x2 x7) = 0) (k : Lb K G w0 Q 8 7 [(0, .ref (xa σ 22)), (1, .int x1), (2, .long x2), (4, .int x4), (5, .ref (xa σ (29 + 2 * m5))), (6, .int x6), (7, .int (x7 + 1))] [] (WC G σ) 0 0) : Lb K G w0 Q 8 7 [(0, .ref (xa σ 22)), (1, .int x1), (2, .long x2), (4, .int x4), (5, .ref (xa σ (29 + 2 * m5))), (6, .int x6), (7, .int x7)] [] (WC G σ) 0 0 := by
  refine b_iload X d_K_farthest_7 6 rfl ?_
  refine b_aload_n X d_K_farthest_9 0 rfl rfl ?_
  refine b_get X fl_K_25 22 rfl (v := .ref (xa σ 12)) rfl d_K_farthest_10 ?_
  refine b_dV X cf_C_end ci_C_end ml_K_107 (ct_C_end_ G σ ) 12 rfl rfl (As := []) (rest := [.int x7]) rfl (Nat.le_of_ble_eq_true rfl) ⟨Nat.le_of_ble_eq_true rfl, Nat.le_of_ble_eq_true rfl⟩ ⟨Nat.le_of_ble_eq_true rfl, Nat.le_of_ble_eq_true rfl⟩ rfl rfl d_K_farthest_13 ?_
  refine b_icmp_gt X (tgt := 58) d_K_farthest_16 (by decide) (fun h => absurd h c16) (fun _ => ?_)
  refine b_iload X d_K_farthest_19 5 rfl ?_
  refine b_aload_n X d_K_farthest_21 0 rfl rfl ?_
  refine b_get X fl_K_25 22 rfl (v := .ref (xa σ 12)) rfl d_K_farthest_22 ?_
  refine b_dV X cf_C_end ci_C_end ml_K_107 (ct_C_end_ G σ ) 12 rfl rfl (As := []) (rest := [.int x6]) rfl (Nat.le_of_ble_eq_true rfl) ⟨Nat.le_of_ble_eq_true rfl, Nat.le_of_ble_eq_true rfl⟩ ⟨Nat.le_of_ble_eq_true rfl, Nat.le_of_ble_eq_true rfl⟩ rfl rfl d_K_farthest_25 ?_
  refine b_icmp_gt X (tgt := 58) d_K_farthest_28 (by decide) (fun h => absurd h c28) (fun _ => ?_)
  refine b_lload_n X d_K_farthest_31 2 rfl rfl ?_
  refine b_iload X d_K_farthest_32 6 rfl ?_
  refine b_dSN X cf_F_has ci_F_has mn_K_139 (ct_F_has G σ x2 x7) (As := [.long x2, .int x7]) (rest := []) rfl (Nat.le_of_ble_eq_true rfl) ⟨Nat.le_of_ble_eq_true rfl, Nat.le_of_ble_eq_true rfl⟩ ⟨Nat.le_of_ble_eq_true rfl, Nat.le_of_ble_eq_true rfl⟩ rfl rfl d_K_farthest_34 ?_
  refine b_if_eq X (tgt := 52) d_K_farthest_37 (by decide) (fun _ => ?_) (fun h => absurd c37 h)
  refine b_iinc X (lv' := [(0, .ref (xa σ 22)), (1, .int x1), (2, .long x2), (4, .int x4), (5, .ref (xa σ (29 + 2 * m5))), (6, .int x6), (7, .int (x7 + 1))]) d_K_farthest_52 6 rfl (v := (x7 + 1)) rfl (by decide) [1, 2, 3, 4, 5, 6, 0] rfl ?_
  refine b_goto X (tgt := 7) d_K_farthest_55 (by decide) ?_
  exact k
theorem sg_K_farthest_7_fff7 {K : KX} {G : GG} {w0 : va_W} {Q : State → Prop} (X : Bd K G w0 "FirstTrees$Walk" c_K_farthest 8 (some .int) rm_K_farthest) (σ : St) (x1 : Int32) (x2 : Int64) (x4 : Int32) (x6 : Int32) (x7 : Int32) (m5 : Nat) (n46 : Nat) (hm5 : m5 < xn σ) (c16 : ¬ (xi σ 12 0) < x7) (c28 : ¬ (xi σ 12 0) < x6) (c37 : ¬ (hasB x2 x7) = 0) (e46 : x7 = nI n46) (h46 : n46 < 61) (k : Lb K G w0 Q 8 7 [(0, .ref (xa σ 22)), (1, .int x1), (2, .long x2), (4, .int x4), (5, .ref (xa σ (29 + 2 * m5))), (6, .int (imax x6 (xp σ (2 * m5 + 1) n46))), (7, .int (x7 + 1))] [] (WC G σ) 0 0) : Lb K G w0 Q 8 7 [(0, .ref (xa σ 22)), (1, .int x1), (2, .long x2), (4, .int x4), (5, .ref (xa σ (29 + 2 * m5))), (6, .int x6), (7, .int x7)] [] (WC G σ) 0 0 := by
  refine b_iload X d_K_farthest_7 6 rfl ?_
  refine b_aload_n X d_K_farthest_9 0 rfl rfl ?_
  refine b_get X fl_K_25 22 rfl (v := .ref (xa σ 12)) rfl d_K_farthest_10 ?_
  refine b_dV X cf_C_end ci_C_end ml_K_107 (ct_C_end_ G σ ) 12 rfl rfl (As := []) (rest := [.int x7]) rfl (Nat.le_of_ble_eq_true rfl) ⟨Nat.le_of_ble_eq_true rfl, Nat.le_of_ble_eq_true rfl⟩ ⟨Nat.le_of_ble_eq_true rfl, Nat.le_of_ble_eq_true rfl⟩ rfl rfl d_K_farthest_13 ?_
  refine b_icmp_gt X (tgt := 58) d_K_farthest_16 (by decide) (fun h => absurd h c16) (fun _ => ?_)
  refine b_iload X d_K_farthest_19 5 rfl ?_
  refine b_aload_n X d_K_farthest_21 0 rfl rfl ?_
  refine b_get X fl_K_25 22 rfl (v := .ref (xa σ 12)) rfl d_K_farthest_22 ?_
  refine b_dV X cf_C_end ci_C_end ml_K_107 (ct_C_end_ G σ ) 12 rfl rfl (As := []) (rest := [.int x6]) rfl (Nat.le_of_ble_eq_true rfl) ⟨Nat.le_of_ble_eq_true rfl, Nat.le_of_ble_eq_true rfl⟩ ⟨Nat.le_of_ble_eq_true rfl, Nat.le_of_ble_eq_true rfl⟩ rfl rfl d_K_farthest_25 ?_
  refine b_icmp_gt X (tgt := 58) d_K_farthest_28 (by decide) (fun h => absurd h c28) (fun _ => ?_)
  refine b_lload_n X d_K_farthest_31 2 rfl rfl ?_
  refine b_iload X d_K_farthest_32 6 rfl ?_
  refine b_dSN X cf_F_has ci_F_has mn_K_139 (ct_F_has G σ x2 x7) (As := [.long x2, .int x7]) (rest := []) rfl (Nat.le_of_ble_eq_true rfl) ⟨Nat.le_of_ble_eq_true rfl, Nat.le_of_ble_eq_true rfl⟩ ⟨Nat.le_of_ble_eq_true rfl, Nat.le_of_ble_eq_true rfl⟩ rfl rfl d_K_farthest_34 ?_
  refine b_if_eq X (tgt := 52) d_K_farthest_37 (by decide) (fun h => absurd h c37) (fun _ => ?_)
  refine b_iload X d_K_farthest_40 5 rfl ?_
  refine b_aload X d_K_farthest_42 4 rfl ?_
  refine b_iload X d_K_farthest_44 6 rfl ?_
  refine b_iald X (29 + 2 * m5) (pg_a G σ hm5) (by decide) n46 e46 h46 d_K_farthest_46 ?_
  refine b_mmax X ml_K_113 ⟨Nat.le_of_ble_eq_true rfl, Nat.le_of_ble_eq_true rfl, Nat.le_of_ble_eq_true rfl, Nat.le_of_ble_eq_true rfl⟩ d_K_farthest_47 ?_
  refine b_istore X (lv' := [(0, .ref (xa σ 22)), (1, .int x1), (2, .long x2), (4, .int x4), (5, .ref (xa σ (29 + 2 * m5))), (6, .int (imax x6 (xp σ (2 * m5 + 1) n46))), (7, .int x7)]) d_K_farthest_50 (by decide) [1, 2, 3, 4, 5, 0, 6] rfl ?_
  refine b_iinc X (lv' := [(0, .ref (xa σ 22)), (1, .int x1), (2, .long x2), (4, .int x4), (5, .ref (xa σ (29 + 2 * m5))), (6, .int (imax x6 (xp σ (2 * m5 + 1) n46))), (7, .int (x7 + 1))]) d_K_farthest_52 6 rfl (v := (x7 + 1)) rfl (by decide) [1, 2, 3, 4, 5, 6, 0] rfl ?_
  refine b_goto X (tgt := 7) d_K_farthest_55 (by decide) ?_
  exact k
theorem ct_K_reachOfToken_t (G : GG) (σ : St) (x1 : Int32) (x2 : Int32) (m3 : Nat)  (hm3 : m3 < xn σ) (c8 : (xi σ 12 0) ≤ x2) : Ct y_K_reachOfToken c_K_reachOfToken 5 (some .int) rm_K_reachOfToken G [.ref (xa σ 22), .int x1, .int x2, .ref (xa σ (29 + 2 * m3))] (WC G σ) (eqp (some (.int x2)) (WC G σ)) := by
  refine Ct.of (by decide +kernel) (Nat.le_of_ble_eq_true rfl) (fun K X => ?_)
  show Lb K G _ _ 5 0 [(0, .ref (xa σ 22)), (1, .int x1), (2, .int x2), (3, .ref (xa σ (29 + 2 * m3)))] [] _ 0 0
  refine b_iload_n X d_K_reachOfToken_0 2 rfl rfl ?_
  refine b_aload_n X d_K_reachOfToken_1 0 rfl rfl ?_
  refine b_get X fl_K_25 22 rfl (v := .ref (xa σ 12)) rfl d_K_reachOfToken_2 ?_
  refine b_dV X cf_C_end ci_C_end ml_K_107 (ct_C_end_ G σ ) 12 rfl rfl (As := []) (rest := [.int x2]) rfl (Nat.le_of_ble_eq_true rfl) ⟨Nat.le_of_ble_eq_true rfl, Nat.le_of_ble_eq_true rfl⟩ ⟨Nat.le_of_ble_eq_true rfl, Nat.le_of_ble_eq_true rfl⟩ rfl rfl d_K_reachOfToken_5 ?_
  refine b_icmp_ge X (tgt := 27) d_K_reachOfToken_8 (by decide) (fun _ => ?_) (fun h => absurd c8 h)
  refine b_iconst X (v := 0) d_K_reachOfToken_27 (by decide) ?_
  refine b_istore X (lv' := [(0, .ref (xa σ 22)), (1, .int x1), (2, .int x2), (3, .ref (xa σ (29 + 2 * m3))), (4, .int 0)]) d_K_reachOfToken_28 (by decide) [1, 2, 3, 4, 0] rfl ?_
  refine b_iload X d_K_reachOfToken_30 4 rfl ?_
  refine b_if_eq X (tgt := 43) d_K_reachOfToken_32 (by decide) (fun _ => ?_) (fun h => absurd h (by decide))
  refine b_iload_n X d_K_reachOfToken_43 2 rfl rfl ?_
  exact b_iret X d_K_reachOfToken_44 ⟨rfl, rfl⟩
theorem ct_K_reachOfToken_ft (G : GG) (σ : St) (x1 : Int32) (x2 : Int32) (m3 : Nat) (n16 : Nat) (hm3 : m3 < xn σ) (c8 : ¬ (xi σ 12 0) ≤ x2) (e16 : x2 = nI n16) (h16 : n16 < 60) (c20 : ¬ (xi σ 11 n16) = x1) : Ct y_K_reachOfToken c_K_reachOfToken 5 (some .int) rm_K_reachOfToken G [.ref (xa σ 22), .int x1, .int x2, .ref (xa σ (29 + 2 * m3))] (WC G σ) (eqp (some (.int x2)) (WC G σ)) := by
  refine Ct.of (by decide +kernel) (Nat.le_of_ble_eq_true rfl) (fun K X => ?_)
  show Lb K G _ _ 5 0 [(0, .ref (xa σ 22)), (1, .int x1), (2, .int x2), (3, .ref (xa σ (29 + 2 * m3)))] [] _ 0 0
  refine b_iload_n X d_K_reachOfToken_0 2 rfl rfl ?_
  refine b_aload_n X d_K_reachOfToken_1 0 rfl rfl ?_
  refine b_get X fl_K_25 22 rfl (v := .ref (xa σ 12)) rfl d_K_reachOfToken_2 ?_
  refine b_dV X cf_C_end ci_C_end ml_K_107 (ct_C_end_ G σ ) 12 rfl rfl (As := []) (rest := [.int x2]) rfl (Nat.le_of_ble_eq_true rfl) ⟨Nat.le_of_ble_eq_true rfl, Nat.le_of_ble_eq_true rfl⟩ ⟨Nat.le_of_ble_eq_true rfl, Nat.le_of_ble_eq_true rfl⟩ rfl rfl d_K_reachOfToken_5 ?_
  refine b_icmp_ge X (tgt := 27) d_K_reachOfToken_8 (by decide) (fun h => absurd h c8) (fun _ => ?_)
  refine b_aload_n X d_K_reachOfToken_11 0 rfl rfl ?_
  refine b_get X fl_K_21 22 rfl (v := .ref (xa σ 10)) rfl d_K_reachOfToken_12 ?_
  refine b_iload_n X d_K_reachOfToken_15 2 rfl rfl ?_
  refine b_dV X cf_I_tokenAt ci_I_tokenAt ml_K_163 (ct_I_tokenAt_ G σ x2 n16 e16 h16) 10 rfl rfl (As := [.int x2]) (rest := []) rfl (Nat.le_of_ble_eq_true rfl) ⟨Nat.le_of_ble_eq_true rfl, Nat.le_of_ble_eq_true rfl⟩ ⟨Nat.le_of_ble_eq_true rfl, Nat.le_of_ble_eq_true rfl⟩ rfl rfl d_K_reachOfToken_16 ?_
  refine b_iload_n X d_K_reachOfToken_19 1 rfl rfl ?_
  refine b_icmp_ne X (tgt := 27) d_K_reachOfToken_20 (by decide) (fun _ => ?_) (fun h => absurd h c20)
  refine b_iconst X (v := 0) d_K_reachOfToken_27 (by decide) ?_
  refine b_istore X (lv' := [(0, .ref (xa σ 22)), (1, .int x1), (2, .int x2), (3, .ref (xa σ (29 + 2 * m3))), (4, .int 0)]) d_K_reachOfToken_28 (by decide) [1, 2, 3, 4, 0] rfl ?_
  refine b_iload X d_K_reachOfToken_30 4 rfl ?_
  refine b_if_eq X (tgt := 43) d_K_reachOfToken_32 (by decide) (fun _ => ?_) (fun h => absurd h (by decide))
  refine b_iload_n X d_K_reachOfToken_43 2 rfl rfl ?_
  exact b_iret X d_K_reachOfToken_44 ⟨rfl, rfl⟩
theorem ct_K_reachOfToken_ff (G : GG) (σ : St) (x1 : Int32) (x2 : Int32) (m3 : Nat) (n16 : Nat) (n39 : Nat) (hm3 : m3 < xn σ) (c8 : ¬ (xi σ 12 0) ≤ x2) (e16 : x2 = nI n16) (h16 : n16 < 60) (c20 : (xi σ 11 n16) = x1) (e39 : (x2 + 1) = nI n39) (h39 : n39 < 61) : Ct y_K_reachOfToken c_K_reachOfToken 5 (some .int) rm_K_reachOfToken G [.ref (xa σ 22), .int x1, .int x2, .ref (xa σ (29 + 2 * m3))] (WC G σ) (eqp (some (.int (xp σ (2 * m3 + 1) n39))) (WC G σ)) := by
  refine Ct.of (by decide +kernel) (Nat.le_of_ble_eq_true rfl) (fun K X => ?_)
  show Lb K G _ _ 5 0 [(0, .ref (xa σ 22)), (1, .int x1), (2, .int x2), (3, .ref (xa σ (29 + 2 * m3)))] [] _ 0 0
  refine b_iload_n X d_K_reachOfToken_0 2 rfl rfl ?_
  refine b_aload_n X d_K_reachOfToken_1 0 rfl rfl ?_
  refine b_get X fl_K_25 22 rfl (v := .ref (xa σ 12)) rfl d_K_reachOfToken_2 ?_
  refine b_dV X cf_C_end ci_C_end ml_K_107 (ct_C_end_ G σ ) 12 rfl rfl (As := []) (rest := [.int x2]) rfl (Nat.le_of_ble_eq_true rfl) ⟨Nat.le_of_ble_eq_true rfl, Nat.le_of_ble_eq_true rfl⟩ ⟨Nat.le_of_ble_eq_true rfl, Nat.le_of_ble_eq_true rfl⟩ rfl rfl d_K_reachOfToken_5 ?_
  refine b_icmp_ge X (tgt := 27) d_K_reachOfToken_8 (by decide) (fun h => absurd h c8) (fun _ => ?_)
  refine b_aload_n X d_K_reachOfToken_11 0 rfl rfl ?_
  refine b_get X fl_K_21 22 rfl (v := .ref (xa σ 10)) rfl d_K_reachOfToken_12 ?_
  refine b_iload_n X d_K_reachOfToken_15 2 rfl rfl ?_
  refine b_dV X cf_I_tokenAt ci_I_tokenAt ml_K_163 (ct_I_tokenAt_ G σ x2 n16 e16 h16) 10 rfl rfl (As := [.int x2]) (rest := []) rfl (Nat.le_of_ble_eq_true rfl) ⟨Nat.le_of_ble_eq_true rfl, Nat.le_of_ble_eq_true rfl⟩ ⟨Nat.le_of_ble_eq_true rfl, Nat.le_of_ble_eq_true rfl⟩ rfl rfl d_K_reachOfToken_16 ?_
  refine b_iload_n X d_K_reachOfToken_19 1 rfl rfl ?_
  refine b_icmp_ne X (tgt := 27) d_K_reachOfToken_20 (by decide) (fun h => absurd c20 h) (fun _ => ?_)
  refine b_iconst X (v := 1) d_K_reachOfToken_23 (by decide) ?_
  refine b_goto X (tgt := 28) d_K_reachOfToken_24 (by decide) ?_
  refine b_istore X (lv' := [(0, .ref (xa σ 22)), (1, .int x1), (2, .int x2), (3, .ref (xa σ (29 + 2 * m3))), (4, .int 1)]) d_K_reachOfToken_28 (by decide) [1, 2, 3, 4, 0] rfl ?_
  refine b_iload X d_K_reachOfToken_30 4 rfl ?_
  refine b_if_eq X (tgt := 43) d_K_reachOfToken_32 (by decide) (fun h => absurd h (by decide)) (fun _ => ?_)
  refine b_aload_n X d_K_reachOfToken_35 3 rfl rfl ?_
  refine b_iload_n X d_K_reachOfToken_36 2 rfl rfl ?_
  refine b_iconst X (v := 1) d_K_reachOfToken_37 (by decide) ?_
  refine b_iadd X d_K_reachOfToken_38 ?_
  refine b_iald X (29 + 2 * m3) (pg_a G σ hm3) (by decide) n39 e39 h39 d_K_reachOfToken_39 ?_
  refine b_goto X (tgt := 44) d_K_reachOfToken_40 (by decide) ?_
  exact b_iret X d_K_reachOfToken_44 ⟨rfl, rfl⟩
theorem ct_K_reachOfRow_ (G : GG) (σ : St) (x1 : Int32)  (n8 : Nat) (n28 : Nat) (r44 : Int32)  (e8 : (xi σ 22 0) = nI n8) (h8 : n8 < 2061) (g8 : n8 < xn σ) (e28 : ((x1 * 61) + (xi σ 22 1)) = nI n28) (h28 : n28 < 7808) (t44 : Ct y_K_farthest c_K_farthest 8 (some .int) rm_K_farthest G [.ref (xa σ 22), .int (xi σ 15 n28), .long (xl σ 14 n28), .int (xi σ 22 1), .ref (xa σ (29 + 2 * n8))] (WC G σ) (eqp (some (.int r44)) (WC G σ))) : Ct y_K_reachOfRow c_K_reachOfRow 4 (some .int) rm_K_reachOfRow G [.ref (xa σ 22), .int x1] (WC G σ) (eqp (some (.int r44)) (WC G σ)) := by
  refine Ct.of (by decide +kernel) (Nat.le_of_ble_eq_true rfl) (fun K X => ?_)
  show Lb K G _ _ 4 0 [(0, .ref (xa σ 22)), (1, .int x1)] [] _ 0 0
  refine b_aload_n X d_K_reachOfRow_0 0 rfl rfl ?_
  refine b_get X fl_K_13 22 rfl (v := .ref (xa σ 23)) rfl d_K_reachOfRow_1 ?_
  refine b_aload_n X d_K_reachOfRow_4 0 rfl rfl ?_
  refine b_get X fl_K_48 22 rfl (v := .int (xi σ 22 0)) rfl d_K_reachOfRow_5 ?_
  refine b_aald X 23 rfl (by decide) n8 e8 h8 (xst_lt (σ := σ) g8) d_K_reachOfRow_8 ?_
  refine b_getN X fn_121 (28 + 2 * n8) (pg_o G σ g8) (v := .ref (xa σ (29 + 2 * n8))) rfl d_K_reachOfRow_9 ?_
  refine b_astore_n X (lv' := [(0, .ref (xa σ 22)), (1, .int x1), (2, .ref (xa σ (29 + 2 * n8)))]) d_K_reachOfRow_12 rfl (by decide) [1, 2, 0] rfl ?_
  refine b_iload_n X d_K_reachOfRow_13 1 rfl rfl ?_
  refine b_aload_n X d_K_reachOfRow_14 0 rfl rfl ?_
  refine b_get X fl_K_34 22 rfl (v := .int (xi σ 22 1)) rfl d_K_reachOfRow_15 ?_
  refine b_dS X cf_C_at ci_C_at ml_K_125 (ct_C_at_ G σ x1 (xi σ 22 1)) (As := [.int x1, .int (xi σ 22 1)]) (rest := []) rfl (Nat.le_of_ble_eq_true rfl) ⟨Nat.le_of_ble_eq_true rfl, Nat.le_of_ble_eq_true rfl⟩ ⟨Nat.le_of_ble_eq_true rfl, Nat.le_of_ble_eq_true rfl⟩ rfl rfl d_K_reachOfRow_18 ?_
  refine b_istore_n X (lv' := [(0, .ref (xa σ 22)), (1, .int x1), (2, .ref (xa σ (29 + 2 * n8))), (3, .int ((x1 * 61) + (xi σ 22 1)))]) d_K_reachOfRow_21 rfl (by decide) [1, 2, 3, 0] rfl ?_
  refine b_aload_n X d_K_reachOfRow_22 0 rfl rfl ?_
  refine b_aload_n X d_K_reachOfRow_23 0 rfl rfl ?_
  refine b_get X fl_K_25 22 rfl (v := .ref (xa σ 12)) rfl d_K_reachOfRow_24 ?_
  refine b_iload_n X d_K_reachOfRow_27 3 rfl rfl ?_
  refine b_dV X cf_C_rowFar ci_C_rowFar ml_K_128 (ct_C_rowFar_ G σ ((x1 * 61) + (xi σ 22 1)) n28 e28 h28) 12 rfl rfl (As := [.int ((x1 * 61) + (xi σ 22 1))]) (rest := [.ref (xa σ 22)]) rfl (Nat.le_of_ble_eq_true rfl) ⟨Nat.le_of_ble_eq_true rfl, Nat.le_of_ble_eq_true rfl⟩ ⟨Nat.le_of_ble_eq_true rfl, Nat.le_of_ble_eq_true rfl⟩ rfl rfl d_K_reachOfRow_28 ?_
  refine b_aload_n X d_K_reachOfRow_31 0 rfl rfl ?_
  refine b_get X fl_K_25 22 rfl (v := .ref (xa σ 12)) rfl d_K_reachOfRow_32 ?_
  refine b_iload_n X d_K_reachOfRow_35 3 rfl rfl ?_
  refine b_dV X cf_C_rowFits ci_C_rowFits ml_K_131 (ct_C_rowFits_ G σ ((x1 * 61) + (xi σ 22 1)) n28 e28 h28) 12 rfl rfl (As := [.int ((x1 * 61) + (xi σ 22 1))]) (rest := [.int (xi σ 15 n28), .ref (xa σ 22)]) rfl (Nat.le_of_ble_eq_true rfl) ⟨Nat.le_of_ble_eq_true rfl, Nat.le_of_ble_eq_true rfl⟩ ⟨Nat.le_of_ble_eq_true rfl, Nat.le_of_ble_eq_true rfl⟩ rfl rfl d_K_reachOfRow_36 ?_
  refine b_aload_n X d_K_reachOfRow_39 0 rfl rfl ?_
  refine b_get X fl_K_34 22 rfl (v := .int (xi σ 22 1)) rfl d_K_reachOfRow_40 ?_
  refine b_aload_n X d_K_reachOfRow_43 2 rfl rfl ?_
  refine b_dV X cf_K_farthest ci_K_farthest ml_K_135 t44 22 rfl rfl (As := [.int (xi σ 15 n28), .long (xl σ 14 n28), .int (xi σ 22 1), .ref (xa σ (29 + 2 * n8))]) (rest := []) rfl (Nat.le_of_ble_eq_true rfl) ⟨Nat.le_of_ble_eq_true rfl, Nat.le_of_ble_eq_true rfl⟩ ⟨Nat.le_of_ble_eq_true rfl, Nat.le_of_ble_eq_true rfl⟩ rfl rfl d_K_reachOfRow_44 ?_
  exact b_iret X d_K_reachOfRow_47 ⟨rfl, rfl⟩
theorem sg_K_firstFitting_0_13 {K : KX} {G : GG} {w0 : va_W} {Q : State → Prop} (X : Bd K G w0 "FirstTrees$Walk" c_K_firstFitting 4 (some .int) rm_K_firstFitting) (σ : St) (x1 : Int32)  (n5 : Nat)  (e5 : x1 = nI n5) (h5 : n5 < 16) (k : Lb K G w0 Q 4 13 [(0, .ref (xa σ 22)), (1, .int x1), (2, .int ((altC σ n5) - 1)), (3, .int 0)] [] (WC G σ) 0 0) : Lb K G w0 Q 4 0 [(0, .ref (xa σ 22)), (1, .int x1)] [] (WC G σ) 0 0 := by
  refine b_aload_n X d_K_firstFitting_0 0 rfl rfl ?_
  refine b_get X fl_K_17 22 rfl (v := .ref (xa σ 1)) rfl d_K_firstFitting_1 ?_
  refine b_iload_n X d_K_firstFitting_4 1 rfl rfl ?_
  refine b_dV X cf_G_alternatives ci_G_alternatives ml_K_101 (ct_G_alternatives G σ x1 n5 e5 h5) 1 rfl rfl (As := [.int x1]) (rest := []) rfl (Nat.le_of_ble_eq_true rfl) ⟨Nat.le_of_ble_eq_true rfl, Nat.le_of_ble_eq_true rfl⟩ ⟨Nat.le_of_ble_eq_true rfl, Nat.le_of_ble_eq_true rfl⟩ rfl rfl d_K_firstFitting_5 ?_
  refine b_iconst X (v := 1) d_K_firstFitting_8 (by decide) ?_
  refine b_isub X d_K_firstFitting_9 ?_
  refine b_istore_n X (lv' := [(0, .ref (xa σ 22)), (1, .int x1), (2, .int ((altC σ n5) - 1))]) d_K_firstFitting_10 rfl (by decide) [1, 2, 0] rfl ?_
  refine b_iconst X (v := 0) d_K_firstFitting_11 (by decide) ?_
  refine b_istore_n X (lv' := [(0, .ref (xa σ 22)), (1, .int x1), (2, .int ((altC σ n5) - 1)), (3, .int 0)]) d_K_firstFitting_12 rfl (by decide) [1, 2, 3, 0] rfl ?_
  exact k
theorem sg_K_firstFitting_13_tr {K : KX} {G : GG} {w0 : va_W} {post : PostT} (X : Bd K G w0 "FirstTrees$Walk" c_K_firstFitting 4 (some .int) rm_K_firstFitting) (σ : St) (x1 : Int32) (x2 : Int32) (x3 : Int32)    (c15 : x2 ≤ x3) (hp : post (some (.int x2)) (WC G σ)) : Lb K G w0 (Qe K G w0 post rm_K_firstFitting) 4 13 [(0, .ref (xa σ 22)), (1, .int x1), (2, .int x2), (3, .int x3)] [] (WC G σ) 0 0 := by
  refine b_iload_n X d_K_firstFitting_13 3 rfl rfl ?_
  refine b_iload_n X d_K_firstFitting_14 2 rfl rfl ?_
  refine b_icmp_ge X (tgt := 45) d_K_firstFitting_15 (by decide) (fun _ => ?_) (fun h => absurd c15 h)
  refine b_iload_n X d_K_firstFitting_45 2 rfl rfl ?_
  exact b_iret X d_K_firstFitting_46 hp
theorem sg_K_firstFitting_13_ft13 {K : KX} {G : GG} {w0 : va_W} {Q : State → Prop} (X : Bd K G w0 "FirstTrees$Walk" c_K_firstFitting 4 (some .int) rm_K_firstFitting) (σ : St) (x1 : Int32) (x2 : Int32) (x3 : Int32)  (r24 : Int32)  (c15 : ¬ x2 ≤ x3) (t24 : Ct y_K_reachOfRow c_K_reachOfRow 4 (some .int) rm_K_reachOfRow G [.ref (xa σ 22), .int ((x1 * 8) + x3)] (WC G σ) (eqp (some (.int r24)) (WC G σ))) (c34 : r24 ≤ (xi σ 12 0)) (k : Lb K G w0 Q 4 13 [(0, .ref (xa σ 22)), (1, .int x1), (2, .int x2), (3, .int (x3 + 1))] [] (WC G σ) 0 0) : Lb K G w0 Q 4 13 [(0, .ref (xa σ 22)), (1, .int x1), (2, .int x2), (3, .int x3)] [] (WC G σ) 0 0 := by
  refine b_iload_n X d_K_firstFitting_13 3 rfl rfl ?_
  refine b_iload_n X d_K_firstFitting_14 2 rfl rfl ?_
  refine b_icmp_ge X (tgt := 45) d_K_firstFitting_15 (by decide) (fun h => absurd h c15) (fun _ => ?_)
  refine b_aload_n X d_K_firstFitting_18 0 rfl rfl ?_
  refine b_iload_n X d_K_firstFitting_19 1 rfl rfl ?_
  refine b_iload_n X d_K_firstFitting_20 3 rfl rfl ?_
  refine b_dS X cf_G_row ci_G_row ml_K_77 (ct_G_row_ G σ x1 x3) (As := [.int x1, .int x3]) (rest := [.ref (xa σ 22)]) rfl (Nat.le_of_ble_eq_true rfl) ⟨Nat.le_of_ble_eq_true rfl, Nat.le_of_ble_eq_true rfl⟩ ⟨Nat.le_of_ble_eq_true rfl, Nat.le_of_ble_eq_true rfl⟩ rfl rfl d_K_firstFitting_21 ?_
  refine b_dV X cf_K_reachOfRow ci_K_reachOfRow ml_K_104 t24 22 rfl rfl (As := [.int ((x1 * 8) + x3)]) (rest := []) rfl (Nat.le_of_ble_eq_true rfl) ⟨Nat.le_of_ble_eq_true rfl, Nat.le_of_ble_eq_true rfl⟩ ⟨Nat.le_of_ble_eq_true rfl, Nat.le_of_ble_eq_true rfl⟩ rfl rfl d_K_firstFitting_24 ?_
  refine b_aload_n X d_K_firstFitting_27 0 rfl rfl ?_
  refine b_get X fl_K_25 22 rfl (v := .ref (xa σ 12)) rfl d_K_firstFitting_28 ?_
  refine b_dV X cf_C_end ci_C_end ml_K_107 (ct_C_end_ G σ ) 12 rfl rfl (As := []) (rest := [.int r24]) rfl (Nat.le_of_ble_eq_true rfl) ⟨Nat.le_of_ble_eq_true rfl, Nat.le_of_ble_eq_true rfl⟩ ⟨Nat.le_of_ble_eq_true rfl, Nat.le_of_ble_eq_true rfl⟩ rfl rfl d_K_firstFitting_31 ?_
  refine b_icmp_le X (tgt := 39) d_K_firstFitting_34 (by decide) (fun _ => ?_) (fun h => absurd c34 h)
  refine b_iinc X (lv' := [(0, .ref (xa σ 22)), (1, .int x1), (2, .int x2), (3, .int (x3 + 1))]) d_K_firstFitting_39 3 rfl (v := (x3 + 1)) rfl (by decide) [1, 2, 3, 0] rfl ?_
  refine b_goto X (tgt := 13) d_K_firstFitting_42 (by decide) ?_
  exact k
theorem sg_K_firstFitting_13_ffr {K : KX} {G : GG} {w0 : va_W} {post : PostT} (X : Bd K G w0 "FirstTrees$Walk" c_K_firstFitting 4 (some .int) rm_K_firstFitting) (σ : St) (x1 : Int32) (x2 : Int32) (x3 : Int32)  (r24 : Int32)  (c15 : ¬ x2 ≤ x3) (t24 : Ct y_K_reachOfRow c_K_reachOfRow 4 (some .int) rm_K_reachOfRow G [.ref (xa σ 22), .int ((x1 * 8) + x3)] (WC G σ) (eqp (some (.int r24)) (WC G σ))) (c34 : ¬ r24 ≤ (xi σ 12 0)) (hp : post (some (.int x3)) (WC G σ)) : Lb K G w0 (Qe K G w0 post rm_K_firstFitting) 4 13 [(0, .ref (xa σ 22)), (1, .int x1), (2, .int x2), (3, .int x3)] [] (WC G σ) 0 0 := by
  refine b_iload_n X d_K_firstFitting_13 3 rfl rfl ?_
  refine b_iload_n X d_K_firstFitting_14 2 rfl rfl ?_
  refine b_icmp_ge X (tgt := 45) d_K_firstFitting_15 (by decide) (fun h => absurd h c15) (fun _ => ?_)
  refine b_aload_n X d_K_firstFitting_18 0 rfl rfl ?_
  refine b_iload_n X d_K_firstFitting_19 1 rfl rfl ?_
  refine b_iload_n X d_K_firstFitting_20 3 rfl rfl ?_
  refine b_dS X cf_G_row ci_G_row ml_K_77 (ct_G_row_ G σ x1 x3) (As := [.int x1, .int x3]) (rest := [.ref (xa σ 22)]) rfl (Nat.le_of_ble_eq_true rfl) ⟨Nat.le_of_ble_eq_true rfl, Nat.le_of_ble_eq_true rfl⟩ ⟨Nat.le_of_ble_eq_true rfl, Nat.le_of_ble_eq_true rfl⟩ rfl rfl d_K_firstFitting_21 ?_
  refine b_dV X cf_K_reachOfRow ci_K_reachOfRow ml_K_104 t24 22 rfl rfl (As := [.int ((x1 * 8) + x3)]) (rest := []) rfl (Nat.le_of_ble_eq_true rfl) ⟨Nat.le_of_ble_eq_true rfl, Nat.le_of_ble_eq_true rfl⟩ ⟨Nat.le_of_ble_eq_true rfl, Nat.le_of_ble_eq_true rfl⟩ rfl rfl d_K_firstFitting_24 ?_
  refine b_aload_n X d_K_firstFitting_27 0 rfl rfl ?_
  refine b_get X fl_K_25 22 rfl (v := .ref (xa σ 12)) rfl d_K_firstFitting_28 ?_
  refine b_dV X cf_C_end ci_C_end ml_K_107 (ct_C_end_ G σ ) 12 rfl rfl (As := []) (rest := [.int r24]) rfl (Nat.le_of_ble_eq_true rfl) ⟨Nat.le_of_ble_eq_true rfl, Nat.le_of_ble_eq_true rfl⟩ ⟨Nat.le_of_ble_eq_true rfl, Nat.le_of_ble_eq_true rfl⟩ rfl rfl d_K_firstFitting_31 ?_
  refine b_icmp_le X (tgt := 39) d_K_firstFitting_34 (by decide) (fun h => absurd h c34) (fun _ => ?_)
  refine b_iload_n X d_K_firstFitting_37 3 rfl rfl ?_
  exact b_iret X d_K_firstFitting_38 hp
theorem sg_K_look_0_t22 {K : KX} {G : GG} {w0 : va_W} {Q : State → Prop} (X : Bd K G w0 "FirstTrees$Walk" c_K_look 5 (some .int) rm_K_look) (σ : St) (x1 : Int32) (x2 : Int32)  (n5 : Nat)  (e5 : x1 = nI n5) (h5 : n5 < 16) (c9 : ¬ (altC σ n5) = 1) (k : Lb K G w0 Q 5 22 [(0, .ref (xa σ 22)), (1, .int x1), (2, .int x2), (3, .int (xi σ 22 1)), (4, .int 0)] [] (WC G σ) 0 0) : Lb K G w0 Q 5 0 [(0, .ref (xa σ 22)), (1, .int x1), (2, .int x2)] [] (WC G σ) 0 0 := by
  refine b_aload_n X d_K_look_0 0 rfl rfl ?_
  refine b_get X fl_K_17 22 rfl (v := .ref (xa σ 1)) rfl d_K_look_1 ?_
  refine b_iload_n X d_K_look_4 1 rfl rfl ?_
  refine b_dV X cf_G_alternatives ci_G_alternatives ml_K_101 (ct_G_alternatives G σ x1 n5 e5 h5) 1 rfl rfl (As := [.int x1]) (rest := []) rfl (Nat.le_of_ble_eq_true rfl) ⟨Nat.le_of_ble_eq_true rfl, Nat.le_of_ble_eq_true rfl⟩ ⟨Nat.le_of_ble_eq_true rfl, Nat.le_of_ble_eq_true rfl⟩ rfl rfl d_K_look_5 ?_
  refine b_iconst X (v := 1) d_K_look_8 (by decide) ?_
  refine b_icmp_ne X (tgt := 14) d_K_look_9 (by decide) (fun _ => ?_) (fun h => absurd h c9)
  refine b_aload_n X d_K_look_14 0 rfl rfl ?_
  refine b_get X fl_K_34 22 rfl (v := .int (xi σ 22 1)) rfl d_K_look_15 ?_
  refine b_istore_n X (lv' := [(0, .ref (xa σ 22)), (1, .int x1), (2, .int x2), (3, .int (xi σ 22 1))]) d_K_look_18 rfl (by decide) [1, 2, 3, 0] rfl ?_
  refine b_iconst X (v := 0) d_K_look_19 (by decide) ?_
  refine b_istore X (lv' := [(0, .ref (xa σ 22)), (1, .int x1), (2, .int x2), (3, .int (xi σ 22 1)), (4, .int 0)]) d_K_look_20 (by decide) [1, 2, 3, 4, 0] rfl ?_
  exact k
theorem sg_K_look_0_fr {K : KX} {G : GG} {w0 : va_W} {post : PostT} (X : Bd K G w0 "FirstTrees$Walk" c_K_look 5 (some .int) rm_K_look) (σ : St) (x1 : Int32) (x2 : Int32)  (n5 : Nat)  (e5 : x1 = nI n5) (h5 : n5 < 16) (c9 : (altC σ n5) = 1) (hp : post (some (.int 0)) (WC G σ)) : Lb K G w0 (Qe K G w0 post rm_K_look) 5 0 [(0, .ref (xa σ 22)), (1, .int x1), (2, .int x2)] [] (WC G σ) 0 0 := by
  refine b_aload_n X d_K_look_0 0 rfl rfl ?_
  refine b_get X fl_K_17 22 rfl (v := .ref (xa σ 1)) rfl d_K_look_1 ?_
  refine b_iload_n X d_K_look_4 1 rfl rfl ?_
  refine b_dV X cf_G_alternatives ci_G_alternatives ml_K_101 (ct_G_alternatives G σ x1 n5 e5 h5) 1 rfl rfl (As := [.int x1]) (rest := []) rfl (Nat.le_of_ble_eq_true rfl) ⟨Nat.le_of_ble_eq_true rfl, Nat.le_of_ble_eq_true rfl⟩ ⟨Nat.le_of_ble_eq_true rfl, Nat.le_of_ble_eq_true rfl⟩ rfl rfl d_K_look_5 ?_
  refine b_iconst X (v := 1) d_K_look_8 (by decide) ?_
  refine b_icmp_ne X (tgt := 14) d_K_look_9 (by decide) (fun h => absurd c9 h) (fun _ => ?_)
  refine b_iconst X (v := 0) d_K_look_12 (by decide) ?_
  exact b_iret X d_K_look_13 hp
theorem sg_K_look_22_tr {K : KX} {G : GG} {w0 : va_W} {post : PostT} (X : Bd K G w0 "FirstTrees$Walk" c_K_look 5 (some .int) rm_K_look) (σ : St) (x1 : Int32) (x2 : Int32) (x3 : Int32) (x4 : Int32)  (n29 : Nat)  (e29 : x1 = nI n29) (h29 : n29 < 16) (c32 : (altC σ n29) ≤ x4) (hp : post (some (.int (((imin x3 (xi σ 12 0)) - (xi σ 22 1)) + 1))) (WC G σ)) : Lb K G w0 (Qe K G w0 post rm_K_look) 5 22 [(0, .ref (xa σ 22)), (1, .int x1), (2, .int x2), (3, .int x3), (4, .int x4)] [] (WC G σ) 0 0 := by
  refine b_iload X d_K_look_22 4 rfl ?_
  refine b_aload_n X d_K_look_24 0 rfl rfl ?_
  refine b_get X fl_K_17 22 rfl (v := .ref (xa σ 1)) rfl d_K_look_25 ?_
  refine b_iload_n X d_K_look_28 1 rfl rfl ?_
  refine b_dV X cf_G_alternatives ci_G_alternatives ml_K_101 (ct_G_alternatives G σ x1 n29 e29 h29) 1 rfl rfl (As := [.int x1]) (rest := [.int x4]) rfl (Nat.le_of_ble_eq_true rfl) ⟨Nat.le_of_ble_eq_true rfl, Nat.le_of_ble_eq_true rfl⟩ ⟨Nat.le_of_ble_eq_true rfl, Nat.le_of_ble_eq_true rfl⟩ rfl rfl d_K_look_29 ?_
  refine b_icmp_ge X (tgt := 62) d_K_look_32 (by decide) (fun _ => ?_) (fun h => absurd c32 h)
  refine b_iload_n X d_K_look_62 3 rfl rfl ?_
  refine b_aload_n X d_K_look_63 0 rfl rfl ?_
  refine b_get X fl_K_25 22 rfl (v := .ref (xa σ 12)) rfl d_K_look_64 ?_
  refine b_dV X cf_C_end ci_C_end ml_K_107 (ct_C_end_ G σ ) 12 rfl rfl (As := []) (rest := [.int x3]) rfl (Nat.le_of_ble_eq_true rfl) ⟨Nat.le_of_ble_eq_true rfl, Nat.le_of_ble_eq_true rfl⟩ ⟨Nat.le_of_ble_eq_true rfl, Nat.le_of_ble_eq_true rfl⟩ rfl rfl d_K_look_67 ?_
  refine b_mmin X ml_K_118 ⟨Nat.le_of_ble_eq_true rfl, Nat.le_of_ble_eq_true rfl, Nat.le_of_ble_eq_true rfl, Nat.le_of_ble_eq_true rfl⟩ d_K_look_70 ?_
  refine b_aload_n X d_K_look_73 0 rfl rfl ?_
  refine b_get X fl_K_34 22 rfl (v := .int (xi σ 22 1)) rfl d_K_look_74 ?_
  refine b_isub X d_K_look_77 ?_
  refine b_iconst X (v := 1) d_K_look_78 (by decide) ?_
  refine b_iadd X d_K_look_79 ?_
  exact b_iret X d_K_look_80 hp
theorem sg_K_look_22_ft22 {K : KX} {G : GG} {w0 : va_W} {Q : State → Prop} (X : Bd K G w0 "FirstTrees$Walk" c_K_look 5 (some .int) rm_K_look) (σ : St) (x1 : Int32) (x2 : Int32) (x3 : Int32) (x4 : Int32)  (n29 : Nat)  (e29 : x1 = nI n29) (h29 : n29 < 16) (c32 : ¬ (altC σ n29) ≤ x4) (c38 : x4 = x2) (k : Lb K G w0 Q 5 22 [(0, .ref (xa σ 22)), (1, .int x1), (2, .int x2), (3, .int x3), (4, .int (x4 + 1))] [] (WC G σ) 0 0) : Lb K G w0 Q 5 22 [(0, .ref (xa σ 22)), (1, .int x1), (2, .int x2), (3, .int x3), (4, .int x4)] [] (WC G σ) 0 0 := by
  refine b_iload X d_K_look_22 4 rfl ?_
  refine b_aload_n X d_K_look_24 0 rfl rfl ?_
  refine b_get X fl_K_17 22 rfl (v := .ref (xa σ 1)) rfl d_K_look_25 ?_
  refine b_iload_n X d_K_look_28 1 rfl rfl ?_
  refine b_dV X cf_G_alternatives ci_G_alternatives ml_K_101 (ct_G_alternatives G σ x1 n29 e29 h29) 1 rfl rfl (As := [.int x1]) (rest := [.int x4]) rfl (Nat.le_of_ble_eq_true rfl) ⟨Nat.le_of_ble_eq_true rfl, Nat.le_of_ble_eq_true rfl⟩ ⟨Nat.le_of_ble_eq_true rfl, Nat.le_of_ble_eq_true rfl⟩ rfl rfl d_K_look_29 ?_
  refine b_icmp_ge X (tgt := 62) d_K_look_32 (by decide) (fun h => absurd h c32) (fun _ => ?_)
  refine b_iload X d_K_look_35 4 rfl ?_
  refine b_iload_n X d_K_look_37 2 rfl rfl ?_
  refine b_icmp_eq X (tgt := 56) d_K_look_38 (by decide) (fun _ => ?_) (fun h => absurd c38 h)
  refine b_iinc X (lv' := [(0, .ref (xa σ 22)), (1, .int x1), (2, .int x2), (3, .int x3), (4, .int (x4 + 1))]) d_K_look_56 4 rfl (v := (x4 + 1)) rfl (by decide) [1, 2, 3, 4, 0] rfl ?_
  refine b_goto X (tgt := 22) d_K_look_59 (by decide) ?_
  exact k
theorem sg_K_look_22_ff22 {K : KX} {G : GG} {w0 : va_W} {Q : State → Prop} (X : Bd K G w0 "FirstTrees$Walk" c_K_look 5 (some .int) rm_K_look) (σ : St) (x1 : Int32) (x2 : Int32) (x3 : Int32) (x4 : Int32)  (n29 : Nat) (r49 : Int32)  (e29 : x1 = nI n29) (h29 : n29 < 16) (c32 : ¬ (altC σ n29) ≤ x4) (c38 : ¬ x4 = x2) (t49 : Ct y_K_reachOfRow c_K_reachOfRow 4 (some .int) rm_K_reachOfRow G [.ref (xa σ 22), .int ((x1 * 8) + x4)] (WC G σ) (eqp (some (.int r49)) (WC G σ))) (k : Lb K G w0 Q 5 22 [(0, .ref (xa σ 22)), (1, .int x1), (2, .int x2), (3, .int (imax x3 r49)), (4, .int (x4 + 1))] [] (WC G σ) 0 0) : Lb K G w0 Q 5 22 [(0, .ref (xa σ 22)), (1, .int x1), (2, .int x2), (3, .int x3), (4, .int x4)] [] (WC G σ) 0 0 := by
  refine b_iload X d_K_look_22 4 rfl ?_
  refine b_aload_n X d_K_look_24 0 rfl rfl ?_
  refine b_get X fl_K_17 22 rfl (v := .ref (xa σ 1)) rfl d_K_look_25 ?_
  refine b_iload_n X d_K_look_28 1 rfl rfl ?_
  refine b_dV X cf_G_alternatives ci_G_alternatives ml_K_101 (ct_G_alternatives G σ x1 n29 e29 h29) 1 rfl rfl (As := [.int x1]) (rest := [.int x4]) rfl (Nat.le_of_ble_eq_true rfl) ⟨Nat.le_of_ble_eq_true rfl, Nat.le_of_ble_eq_true rfl⟩ ⟨Nat.le_of_ble_eq_true rfl, Nat.le_of_ble_eq_true rfl⟩ rfl rfl d_K_look_29 ?_
  refine b_icmp_ge X (tgt := 62) d_K_look_32 (by decide) (fun h => absurd h c32) (fun _ => ?_)
  refine b_iload X d_K_look_35 4 rfl ?_
  refine b_iload_n X d_K_look_37 2 rfl rfl ?_
  refine b_icmp_eq X (tgt := 56) d_K_look_38 (by decide) (fun h => absurd h c38) (fun _ => ?_)
  refine b_iload_n X d_K_look_41 3 rfl rfl ?_
  refine b_aload_n X d_K_look_42 0 rfl rfl ?_
  refine b_iload_n X d_K_look_43 1 rfl rfl ?_
  refine b_iload X d_K_look_44 4 rfl ?_
  refine b_dS X cf_G_row ci_G_row ml_K_77 (ct_G_row_ G σ x1 x4) (As := [.int x1, .int x4]) (rest := [.ref (xa σ 22), .int x3]) rfl (Nat.le_of_ble_eq_true rfl) ⟨Nat.le_of_ble_eq_true rfl, Nat.le_of_ble_eq_true rfl⟩ ⟨Nat.le_of_ble_eq_true rfl, Nat.le_of_ble_eq_true rfl⟩ rfl rfl d_K_look_46 ?_
  refine b_dV X cf_K_reachOfRow ci_K_reachOfRow ml_K_104 t49 22 rfl rfl (As := [.int ((x1 * 8) + x4)]) (rest := [.int x3]) rfl (Nat.le_of_ble_eq_true rfl) ⟨Nat.le_of_ble_eq_true rfl, Nat.le_of_ble_eq_true rfl⟩ ⟨Nat.le_of_ble_eq_true rfl, Nat.le_of_ble_eq_true rfl⟩ rfl rfl d_K_look_49 ?_
  refine b_mmax X ml_K_113 ⟨Nat.le_of_ble_eq_true rfl, Nat.le_of_ble_eq_true rfl, Nat.le_of_ble_eq_true rfl, Nat.le_of_ble_eq_true rfl⟩ d_K_look_52 ?_
  refine b_istore_n X (lv' := [(0, .ref (xa σ 22)), (1, .int x1), (2, .int x2), (3, .int (imax x3 r49)), (4, .int x4)]) d_K_look_55 rfl (by decide) [1, 2, 3, 0, 4] rfl ?_
  refine b_iinc X (lv' := [(0, .ref (xa σ 22)), (1, .int x1), (2, .int x2), (3, .int (imax x3 r49)), (4, .int (x4 + 1))]) d_K_look_56 4 rfl (v := (x4 + 1)) rfl (by decide) [1, 2, 3, 4, 0] rfl ?_
  refine b_goto X (tgt := 22) d_K_look_59 (by decide) ?_
  exact k
theorem sg_K_findReaches_0_47 {K : KX} {G : GG} {w0 : va_W} {Q : State → Prop} (X : Bd K G w0 "FirstTrees$Walk" c_K_findReaches 6 none rm_K_findReaches) (σ : St)   (n8 : Nat) (n23 : Nat)  (e8 : (xi σ 22 0) = nI n8) (h8 : n8 < 2061) (g8 : n8 < xn σ) (e23 : ((xi σ 22 0) - 1) = nI n23) (h23 : n23 < 2061) (g23 : n23 < xn σ) (k : Lb K G w0 Q 6 47 [(0, .ref (xa σ 22)), (1, .ref (xa σ (29 + 2 * n8))), (2, .ref (xa σ (29 + 2 * n23))), (3, .int (xp σ (2 * n8) 0)), (4, .int (xi σ 22 1))] [] (WC G σ) 0 0) : Lb K G w0 Q 6 0 [(0, .ref (xa σ 22))] [] (WC G σ) 0 0 := by
  refine b_aload_n X d_K_findReaches_0 0 rfl rfl ?_
  refine b_get X fl_K_13 22 rfl (v := .ref (xa σ 23)) rfl d_K_findReaches_1 ?_
  refine b_aload_n X d_K_findReaches_4 0 rfl rfl ?_
  refine b_get X fl_K_48 22 rfl (v := .int (xi σ 22 0)) rfl d_K_findReaches_5 ?_
  refine b_aald X 23 rfl (by decide) n8 e8 h8 (xst_lt (σ := σ) g8) d_K_findReaches_8 ?_
  refine b_getN X fn_121 (28 + 2 * n8) (pg_o G σ g8) (v := .ref (xa σ (29 + 2 * n8))) rfl d_K_findReaches_9 ?_
  refine b_astore_n X (lv' := [(0, .ref (xa σ 22)), (1, .ref (xa σ (29 + 2 * n8)))]) d_K_findReaches_12 rfl (by decide) [1, 0] rfl ?_
  refine b_aload_n X d_K_findReaches_13 0 rfl rfl ?_
  refine b_get X fl_K_13 22 rfl (v := .ref (xa σ 23)) rfl d_K_findReaches_14 ?_
  refine b_aload_n X d_K_findReaches_17 0 rfl rfl ?_
  refine b_get X fl_K_48 22 rfl (v := .int (xi σ 22 0)) rfl d_K_findReaches_18 ?_
  refine b_iconst X (v := 1) d_K_findReaches_21 (by decide) ?_
  refine b_isub X d_K_findReaches_22 ?_
  refine b_aald X 23 rfl (by decide) n23 e23 h23 (xst_lt (σ := σ) g23) d_K_findReaches_23 ?_
  refine b_getN X fn_121 (28 + 2 * n23) (pg_o G σ g23) (v := .ref (xa σ (29 + 2 * n23))) rfl d_K_findReaches_24 ?_
  refine b_astore_n X (lv' := [(0, .ref (xa σ 22)), (1, .ref (xa σ (29 + 2 * n8))), (2, .ref (xa σ (29 + 2 * n23)))]) d_K_findReaches_27 rfl (by decide) [1, 2, 0] rfl ?_
  refine b_aload_n X d_K_findReaches_28 0 rfl rfl ?_
  refine b_get X fl_K_13 22 rfl (v := .ref (xa σ 23)) rfl d_K_findReaches_29 ?_
  refine b_aload_n X d_K_findReaches_32 0 rfl rfl ?_
  refine b_get X fl_K_48 22 rfl (v := .int (xi σ 22 0)) rfl d_K_findReaches_33 ?_
  refine b_aald X 23 rfl (by decide) n8 e8 h8 (xst_lt (σ := σ) g8) d_K_findReaches_36 ?_
  refine b_getN X fn_51 (28 + 2 * n8) (pg_o G σ g8) (v := .int (xp σ (2 * n8) 0)) rfl d_K_findReaches_37 ?_
  refine b_istore_n X (lv' := [(0, .ref (xa σ 22)), (1, .ref (xa σ (29 + 2 * n8))), (2, .ref (xa σ (29 + 2 * n23))), (3, .int (xp σ (2 * n8) 0))]) d_K_findReaches_40 rfl (by decide) [1, 2, 3, 0] rfl ?_
  refine b_aload_n X d_K_findReaches_41 0 rfl rfl ?_
  refine b_get X fl_K_34 22 rfl (v := .int (xi σ 22 1)) rfl d_K_findReaches_42 ?_
  refine b_istore X (lv' := [(0, .ref (xa σ 22)), (1, .ref (xa σ (29 + 2 * n8))), (2, .ref (xa σ (29 + 2 * n23))), (3, .int (xp σ (2 * n8) 0)), (4, .int (xi σ 22 1))]) d_K_findReaches_45 (by decide) [1, 2, 3, 4, 0] rfl ?_
  exact k
theorem sg_K_findReaches_47_tr {K : KX} {G : GG} {w0 : va_W} {post : PostT} (X : Bd K G w0 "FirstTrees$Walk" c_K_findReaches 6 none rm_K_findReaches) (σ : St) (x3 : Int32) (x4 : Int32) (m1 : Nat) (m2 : Nat)  (hm1 : m1 < xn σ) (hm2 : m2 < xn σ) (c56 : (xi σ 12 0) < x4) (hp : post none (WC G σ)) : Lb K G w0 (Qe K G w0 post rm_K_findReaches) 6 47 [(0, .ref (xa σ 22)), (1, .ref (xa σ (29 + 2 * m1))), (2, .ref (xa σ (29 + 2 * m2))), (3, .int x3), (4, .int x4)] [] (WC G σ) 0 0 := by
  refine b_iload X d_K_findReaches_47 4 rfl ?_
  refine b_aload_n X d_K_findReaches_49 0 rfl rfl ?_
  refine b_get X fl_K_25 22 rfl (v := .ref (xa σ 12)) rfl d_K_findReaches_50 ?_
  refine b_dV X cf_C_end ci_C_end ml_K_107 (ct_C_end_ G σ ) 12 rfl rfl (As := []) (rest := [.int x4]) rfl (Nat.le_of_ble_eq_true rfl) ⟨Nat.le_of_ble_eq_true rfl, Nat.le_of_ble_eq_true rfl⟩ ⟨Nat.le_of_ble_eq_true rfl, Nat.le_of_ble_eq_true rfl⟩ rfl rfl d_K_findReaches_53 ?_
  refine b_icmp_gt X (tgt := 127) d_K_findReaches_56 (by decide) (fun _ => ?_) (fun h => absurd c56 h)
  exact b_vret X d_K_findReaches_127 hp
theorem sg_K_findReaches_47_ft47 {K : KX} {G : GG} {w0 : va_W} {Q : State → Prop} (X : Bd K G w0 "FirstTrees$Walk" c_K_findReaches 6 none rm_K_findReaches) (σ : St) (x3 : Int32) (x4 : Int32) (m1 : Nat) (m2 : Nat) (n102 : Nat) (r117 : Int32) (n120 : Nat) (hm1 : m1 < xn σ) (hm2 : m2 < xn σ) (c56 : ¬ (xi σ 12 0) < x4) (c63 : (b2i (0 ≤ x3)) = 0) (e102 : ((((-1) - x3) * 61) + x4) = nI n102) (h102 : n102 < 976) (t117 : Ct y_K_farthest c_K_farthest 8 (some .int) rm_K_farthest G [.ref (xa σ 22), .int (xi σ 17 n102), .long (xl σ 16 n102), .int x4, .ref (xa σ (29 + 2 * m2))] (WC G σ) (eqp (some (.int r117)) (WC G σ))) (e120 : x4 = nI n120) (h120 : n120 < 61) (k : Lb K G w0 Q 6 47 [(0, .ref (xa σ 22)), (1, .ref (xa σ (29 + 2 * m1))), (2, .ref (xa σ (29 + 2 * m2))), (3, .int x3), (4, .int (x4 + 1))] [] (WC G (wp σ (2 * m1 + 1) n120 r117)) 0 0) : Lb K G w0 Q 6 47 [(0, .ref (xa σ 22)), (1, .ref (xa σ (29 + 2 * m1))), (2, .ref (xa σ (29 + 2 * m2))), (3, .int x3), (4, .int x4)] [] (WC G σ) 0 0 := by
  refine b_iload X d_K_findReaches_47 4 rfl ?_
  refine b_aload_n X d_K_findReaches_49 0 rfl rfl ?_
  refine b_get X fl_K_25 22 rfl (v := .ref (xa σ 12)) rfl d_K_findReaches_50 ?_
  refine b_dV X cf_C_end ci_C_end ml_K_107 (ct_C_end_ G σ ) 12 rfl rfl (As := []) (rest := [.int x4]) rfl (Nat.le_of_ble_eq_true rfl) ⟨Nat.le_of_ble_eq_true rfl, Nat.le_of_ble_eq_true rfl⟩ ⟨Nat.le_of_ble_eq_true rfl, Nat.le_of_ble_eq_true rfl⟩ rfl rfl d_K_findReaches_53 ?_
  refine b_icmp_gt X (tgt := 127) d_K_findReaches_56 (by decide) (fun h => absurd h c56) (fun _ => ?_)
  refine b_iload_n X d_K_findReaches_59 3 rfl rfl ?_
  refine b_dS X cf_G_isToken ci_G_isToken ml_K_54 (ct_G_isToken G σ x3) (As := [.int x3]) (rest := []) rfl (Nat.le_of_ble_eq_true rfl) ⟨Nat.le_of_ble_eq_true rfl, Nat.le_of_ble_eq_true rfl⟩ ⟨Nat.le_of_ble_eq_true rfl, Nat.le_of_ble_eq_true rfl⟩ rfl rfl d_K_findReaches_60 ?_
  refine b_if_eq X (tgt := 81) d_K_findReaches_63 (by decide) (fun _ => ?_) (fun h => absurd c63 h)
  refine b_iload_n X d_K_findReaches_81 3 rfl rfl ?_
  refine b_dS X cf_G_ruleOf ci_G_ruleOf ml_K_60 (ct_G_ruleOf_ G σ x3) (As := [.int x3]) (rest := []) rfl (Nat.le_of_ble_eq_true rfl) ⟨Nat.le_of_ble_eq_true rfl, Nat.le_of_ble_eq_true rfl⟩ ⟨Nat.le_of_ble_eq_true rfl, Nat.le_of_ble_eq_true rfl⟩ rfl rfl d_K_findReaches_82 ?_
  refine b_iload X d_K_findReaches_85 4 rfl ?_
  refine b_dS X cf_C_at ci_C_at ml_K_125 (ct_C_at_ G σ ((-1) - x3) x4) (As := [.int ((-1) - x3), .int x4]) (rest := []) rfl (Nat.le_of_ble_eq_true rfl) ⟨Nat.le_of_ble_eq_true rfl, Nat.le_of_ble_eq_true rfl⟩ ⟨Nat.le_of_ble_eq_true rfl, Nat.le_of_ble_eq_true rfl⟩ rfl rfl d_K_findReaches_87 ?_
  refine b_istore X (lv' := [(0, .ref (xa σ 22)), (1, .ref (xa σ (29 + 2 * m1))), (2, .ref (xa σ (29 + 2 * m2))), (3, .int x3), (4, .int x4), (5, .int ((((-1) - x3) * 61) + x4))]) d_K_findReaches_90 (by decide) [1, 2, 3, 4, 5, 0] rfl ?_
  refine b_aload_n X d_K_findReaches_92 1 rfl rfl ?_
  refine b_iload X d_K_findReaches_93 4 rfl ?_
  refine b_aload_n X d_K_findReaches_95 0 rfl rfl ?_
  refine b_aload_n X d_K_findReaches_96 0 rfl rfl ?_
  refine b_get X fl_K_25 22 rfl (v := .ref (xa σ 12)) rfl d_K_findReaches_97 ?_
  refine b_iload X d_K_findReaches_100 5 rfl ?_
  refine b_dV X cf_C_ruleFar ci_C_ruleFar ml_K_157 (ct_C_ruleFar_ G σ ((((-1) - x3) * 61) + x4) n102 e102 h102) 12 rfl rfl (As := [.int ((((-1) - x3) * 61) + x4)]) (rest := [.ref (xa σ 22), .int x4, .ref (xa σ (29 + 2 * m1))]) rfl (Nat.le_of_ble_eq_true rfl) ⟨Nat.le_of_ble_eq_true rfl, Nat.le_of_ble_eq_true rfl⟩ ⟨Nat.le_of_ble_eq_true rfl, Nat.le_of_ble_eq_true rfl⟩ rfl rfl d_K_findReaches_102 ?_
  refine b_aload_n X d_K_findReaches_105 0 rfl rfl ?_
  refine b_get X fl_K_25 22 rfl (v := .ref (xa σ 12)) rfl d_K_findReaches_106 ?_
  refine b_iload X d_K_findReaches_109 5 rfl ?_
  refine b_dV X cf_C_ruleFits ci_C_ruleFits ml_K_160 (ct_C_ruleFits_ G σ ((((-1) - x3) * 61) + x4) n102 e102 h102) 12 rfl rfl (As := [.int ((((-1) - x3) * 61) + x4)]) (rest := [.int (xi σ 17 n102), .ref (xa σ 22), .int x4, .ref (xa σ (29 + 2 * m1))]) rfl (Nat.le_of_ble_eq_true rfl) ⟨Nat.le_of_ble_eq_true rfl, Nat.le_of_ble_eq_true rfl⟩ ⟨Nat.le_of_ble_eq_true rfl, Nat.le_of_ble_eq_true rfl⟩ rfl rfl d_K_findReaches_111 ?_
  refine b_iload X d_K_findReaches_114 4 rfl ?_
  refine b_aload_n X d_K_findReaches_116 2 rfl rfl ?_
  refine b_dV X cf_K_farthest ci_K_farthest ml_K_135 t117 22 rfl rfl (As := [.int (xi σ 17 n102), .long (xl σ 16 n102), .int x4, .ref (xa σ (29 + 2 * m2))]) (rest := [.int x4, .ref (xa σ (29 + 2 * m1))]) rfl (Nat.le_of_ble_eq_true rfl) ⟨Nat.le_of_ble_eq_true rfl, Nat.le_of_ble_eq_true rfl⟩ ⟨Nat.le_of_ble_eq_true rfl, Nat.le_of_ble_eq_true rfl⟩ rfl rfl d_K_findReaches_117 ?_
  refine b_iast X (29 + 2 * m1) (pg_a G σ hm1) (by decide) n120 e120 h120 (ps_a G σ hm1 n120 r117) d_K_findReaches_120 ?_
  refine b_iinc X (lv' := [(0, .ref (xa σ 22)), (1, .ref (xa σ (29 + 2 * m1))), (2, .ref (xa σ (29 + 2 * m2))), (3, .int x3), (4, .int (x4 + 1)), (5, .int ((((-1) - x3) * 61) + x4))]) d_K_findReaches_121 4 rfl (v := (x4 + 1)) rfl (by decide) [1, 2, 3, 4, 0, 5] rfl ?_
  refine b_goto X (tgt := 47) d_K_findReaches_124 (by decide) ?_
  refine Lb.pick (lv' := [(0, .ref (xa σ 22)), (1, .ref (xa σ (29 + 2 * m1))), (2, .ref (xa σ (29 + 2 * m2))), (3, .int x3), (4, .int (x4 + 1))]) [0, 1, 2, 3, 4] rfl ?_
  exact k
theorem sg_K_findReaches_47_ff47 {K : KX} {G : GG} {w0 : va_W} {Q : State → Prop} (X : Bd K G w0 "FirstTrees$Walk" c_K_findReaches 6 none rm_K_findReaches) (σ : St) (x3 : Int32) (x4 : Int32) (m1 : Nat) (m2 : Nat) (r74 : Int32) (n77 : Nat) (hm1 : m1 < xn σ) (hm2 : m2 < xn σ) (c56 : ¬ (xi σ 12 0) < x4) (c63 : ¬ (b2i (0 ≤ x3)) = 0) (t74 : Ct y_K_reachOfToken c_K_reachOfToken 5 (some .int) rm_K_reachOfToken G [.ref (xa σ 22), .int x3, .int x4, .ref (xa σ (29 + 2 * m2))] (WC G σ) (eqp (some (.int r74)) (WC G σ))) (e77 : x4 = nI n77) (h77 : n77 < 61) (k : Lb K G w0 Q 6 47 [(0, .ref (xa σ 22)), (1, .ref (xa σ (29 + 2 * m1))), (2, .ref (xa σ (29 + 2 * m2))), (3, .int x3), (4, .int (x4 + 1))] [] (WC G (wp σ (2 * m1 + 1) n77 r74)) 0 0) : Lb K G w0 Q 6 47 [(0, .ref (xa σ 22)), (1, .ref (xa σ (29 + 2 * m1))), (2, .ref (xa σ (29 + 2 * m2))), (3, .int x3), (4, .int x4)] [] (WC G σ) 0 0 := by
  refine b_iload X d_K_findReaches_47 4 rfl ?_
  refine b_aload_n X d_K_findReaches_49 0 rfl rfl ?_
  refine b_get X fl_K_25 22 rfl (v := .ref (xa σ 12)) rfl d_K_findReaches_50 ?_
  refine b_dV X cf_C_end ci_C_end ml_K_107 (ct_C_end_ G σ ) 12 rfl rfl (As := []) (rest := [.int x4]) rfl (Nat.le_of_ble_eq_true rfl) ⟨Nat.le_of_ble_eq_true rfl, Nat.le_of_ble_eq_true rfl⟩ ⟨Nat.le_of_ble_eq_true rfl, Nat.le_of_ble_eq_true rfl⟩ rfl rfl d_K_findReaches_53 ?_
  refine b_icmp_gt X (tgt := 127) d_K_findReaches_56 (by decide) (fun h => absurd h c56) (fun _ => ?_)
  refine b_iload_n X d_K_findReaches_59 3 rfl rfl ?_
  refine b_dS X cf_G_isToken ci_G_isToken ml_K_54 (ct_G_isToken G σ x3) (As := [.int x3]) (rest := []) rfl (Nat.le_of_ble_eq_true rfl) ⟨Nat.le_of_ble_eq_true rfl, Nat.le_of_ble_eq_true rfl⟩ ⟨Nat.le_of_ble_eq_true rfl, Nat.le_of_ble_eq_true rfl⟩ rfl rfl d_K_findReaches_60 ?_
  refine b_if_eq X (tgt := 81) d_K_findReaches_63 (by decide) (fun h => absurd h c63) (fun _ => ?_)
  refine b_aload_n X d_K_findReaches_66 1 rfl rfl ?_
  refine b_iload X d_K_findReaches_67 4 rfl ?_
  refine b_aload_n X d_K_findReaches_69 0 rfl rfl ?_
  refine b_iload_n X d_K_findReaches_70 3 rfl rfl ?_
  refine b_iload X d_K_findReaches_71 4 rfl ?_
  refine b_aload_n X d_K_findReaches_73 2 rfl rfl ?_
  refine b_dV X cf_K_reachOfToken ci_K_reachOfToken ml_K_153 t74 22 rfl rfl (As := [.int x3, .int x4, .ref (xa σ (29 + 2 * m2))]) (rest := [.int x4, .ref (xa σ (29 + 2 * m1))]) rfl (Nat.le_of_ble_eq_true rfl) ⟨Nat.le_of_ble_eq_true rfl, Nat.le_of_ble_eq_true rfl⟩ ⟨Nat.le_of_ble_eq_true rfl, Nat.le_of_ble_eq_true rfl⟩ rfl rfl d_K_findReaches_74 ?_
  refine b_iast X (29 + 2 * m1) (pg_a G σ hm1) (by decide) n77 e77 h77 (ps_a G σ hm1 n77 r74) d_K_findReaches_77 ?_
  refine b_goto X (tgt := 121) d_K_findReaches_78 (by decide) ?_
  refine b_iinc X (lv' := [(0, .ref (xa σ 22)), (1, .ref (xa σ (29 + 2 * m1))), (2, .ref (xa σ (29 + 2 * m2))), (3, .int x3), (4, .int (x4 + 1))]) d_K_findReaches_121 4 rfl (v := (x4 + 1)) rfl (by decide) [1, 2, 3, 4, 0] rfl ?_
  refine b_goto X (tgt := 47) d_K_findReaches_124 (by decide) ?_
  exact k
theorem sg_K_lay_0_r {K : KX} {G : GG} {w0 : va_W} {cc ss D : Nat} {post : PostT} (X : Bd K G w0 "FirstTrees$Walk" c_K_lay 3 none (rmk rm_K_lay D)) (σ : St) (x1 : Int32) (x2 : Int32)  (δ11 : Nat) (q11 : Sq) (n22 : Nat)  (hc : cc ≤ 2 * D) (hs : ss ≤ 64 * D) (t11 : Ct y_K_makeRoom c_K_makeRoom 1 none (rmk rm_K_makeRoom δ11) G [.ref (xa σ 22)] (WC G (wi σ 22 0 ((xi σ 22 0) + 1))) (PA G (xa σ) none q11)) (hc11 : cc + 2 * δ11 ≤ 2 * D) (hs11 : ss + 64 * δ11 ≤ 64 * D) (e22 : (xi (xa σ, q11) 22 0) = nI n22) (h22 : n22 < 2061) (g22 : n22 < xn (xa σ, q11)) (hp : ∀ f : Nat → Nat, (∀ k, k < 28 → f k = xa σ k) → post none (WC G (wp (wp (f, q11) (2 * n22) 0 x1) (2 * n22) 1 x2))) : Lb K G w0 (Qe K G w0 post (rmk rm_K_lay D)) 3 0 [(0, .ref (xa σ 22)), (1, .int x1), (2, .int x2)] [] (WC G σ) cc ss := by
  refine b_aload_n X d_K_lay_0 0 rfl rfl ?_
  refine b_dup X d_K_lay_1 rfl ?_
  refine b_get X fl_K_48 22 rfl (v := .int (xi σ 22 0)) rfl d_K_lay_2 ?_
  refine b_iconst X (v := 1) d_K_lay_5 (by decide) ?_
  refine b_iadd X d_K_lay_6 ?_
  refine b_put X fl_K_48 pl_K_pending 22 rfl rfl rfl (Nat.le_of_ble_eq_true rfl) (uWC_22_pending G σ ((xi σ 22 0) + 1)) d_K_lay_7 ?_
  refine b_aload_n X d_K_lay_10 0 rfl rfl ?_
  refine b_callV X cf_K_makeRoom ci_K_makeRoom ml_K_143 t11 22 rfl rfl (As := []) (rest := []) rfl (Nat.le_of_ble_eq_true rfl) ⟨Nat.le_of_ble_eq_true rfl, Nat.le_of_ble_eq_true rfl⟩ ⟨hc11, hs11⟩ rfl d_K_lay_11 (fun v' w' hp' => ?_)
  obtain ⟨rfl, f11, a11, rfl⟩ := hp'
  refine Lb.eq (st' := []) rfl rfl rfl ?_
  rw [← a11 22 (by decide)]
  refine b_aload_n X d_K_lay_14 0 rfl rfl ?_
  refine b_get X fl_K_13 22 rfl (v := .ref (f11 23)) rfl d_K_lay_15 ?_
  refine b_aload_n X d_K_lay_18 0 rfl rfl ?_
  refine b_get X fl_K_48 22 rfl (v := .int (xi (xa σ, q11) 22 0)) rfl d_K_lay_19 ?_
  refine b_aald X 23 rfl (by decide) n22 e22 h22 (xst_lt (σ := (f11, q11)) g22) d_K_lay_22 ?_
  refine b_iload_n X d_K_lay_23 1 rfl rfl ?_
  refine b_putN X fn_51 pl_P_symbol (28 + 2 * n22) (pg_o G (f11, q11) g22) rfl rfl (Nat.le_of_ble_eq_true rfl) (ps_0 G (f11, q11) g22 x1) d_K_lay_24 ?_
  refine b_aload_n X d_K_lay_27 0 rfl rfl ?_
  refine b_get X fl_K_13 22 rfl (v := .ref (f11 23)) rfl d_K_lay_28 ?_
  refine b_aload_n X d_K_lay_31 0 rfl rfl ?_
  refine b_get X fl_K_48 22 rfl (v := .int (xi (xa σ, q11) 22 0)) rfl d_K_lay_32 ?_
  refine b_aald X 23 rfl (by decide) n22 e22 h22 (xst_lt (σ := (wp (f11, q11) (2 * n22) 0 x1)) g22) d_K_lay_35 ?_
  refine b_iload_n X d_K_lay_36 2 rfl rfl ?_
  refine b_putN X fn_64 pl_P_above (28 + 2 * n22) (pg_o G (wp (f11, q11) (2 * n22) 0 x1) g22) rfl rfl (Nat.le_of_ble_eq_true rfl) (ps_1 G (wp (f11, q11) (2 * n22) 0 x1) g22 x2) d_K_lay_37 ?_
  refine Lb.widen hc11 hs11 ?_
  exact b_vret X d_K_lay_40 (hp f11 a11)
theorem sg_K_layBottom_0_21 {K : KX} {G : GG} {w0 : va_W} {cc ss D : Nat} {Q : State → Prop} (X : Bd K G w0 "FirstTrees$Walk" c_K_layBottom 3 none (rmk rm_K_layBottom D)) (σ : St)   (δ6 : Nat) (q6 : Sq)  (hc : cc ≤ 2 * D) (hs : ss ≤ 64 * D) (t6 : Ct y_K_makeRoom c_K_makeRoom 1 none (rmk rm_K_makeRoom δ6) G [.ref (xa σ 22)] (WC G (wi σ 22 0 0)) (PA G (xa σ) none q6)) (hc6 : cc + 2 * δ6 ≤ 2 * D) (hs6 : ss + 64 * δ6 ≤ 64 * D) (g14 : 0 < xn (xa σ, q6)) (k : ∀ f : Nat → Nat, (∀ k, k < 28 → f k = xa σ k) → Lb K G w0 Q 3 21 [(0, .ref (f 22)), (1, .ref (f (29 + 2 * 0))), (2, .int 0)] [] (WC G (f, q6)) (cc + 2 * δ6) (ss + 64 * δ6)) : Lb K G w0 Q 3 0 [(0, .ref (xa σ 22))] [] (WC G σ) cc ss := by
  refine b_aload_n X d_K_layBottom_0 0 rfl rfl ?_
  refine b_iconst X (v := 0) d_K_layBottom_1 (by decide) ?_
  refine b_put X fl_K_48 pl_K_pending 22 rfl rfl rfl (Nat.le_of_ble_eq_true rfl) (uWC_22_pending G σ 0) d_K_layBottom_2 ?_
  refine b_aload_n X d_K_layBottom_5 0 rfl rfl ?_
  refine b_callV X cf_K_makeRoom ci_K_makeRoom ml_K_143 t6 22 rfl rfl (As := []) (rest := []) rfl (Nat.le_of_ble_eq_true rfl) ⟨Nat.le_of_ble_eq_true rfl, Nat.le_of_ble_eq_true rfl⟩ ⟨hc6, hs6⟩ rfl d_K_layBottom_6 (fun v' w' hp' => ?_)
  obtain ⟨rfl, f6, a6, rfl⟩ := hp'
  refine Lb.eq (st' := []) rfl rfl rfl ?_
  rw [← a6 22 (by decide)]
  refine b_aload_n X d_K_layBottom_9 0 rfl rfl ?_
  refine b_get X fl_K_13 22 rfl (v := .ref (f6 23)) rfl d_K_layBottom_10 ?_
  refine b_iconst X (v := 0) d_K_layBottom_13 (by decide) ?_
  refine b_aald X 23 rfl (by decide) 0 (by decide) (by decide) (xst_lt (σ := (f6, q6)) g14) d_K_layBottom_14 ?_
  refine b_getN X fn_121 (28 + 2 * 0) (pg_o G (f6, q6) g14) (v := .ref (f6 (29 + 2 * 0))) rfl d_K_layBottom_15 ?_
  refine b_astore_n X (lv' := [(0, .ref (f6 22)), (1, .ref (f6 (29 + 2 * 0)))]) d_K_layBottom_18 rfl (by decide) [1, 0] rfl ?_
  refine b_iconst X (v := 0) d_K_layBottom_19 (by decide) ?_
  refine b_istore_n X (lv' := [(0, .ref (f6 22)), (1, .ref (f6 (29 + 2 * 0))), (2, .int 0)]) d_K_layBottom_20 rfl (by decide) [1, 2, 0] rfl ?_
  exact k f6 a6
theorem sg_K_layBottom_21_tr {K : KX} {G : GG} {w0 : va_W} {cc ss D : Nat} {post : PostT} (X : Bd K G w0 "FirstTrees$Walk" c_K_layBottom 3 none (rmk rm_K_layBottom D)) (σ : St) (x2 : Int32) (m1 : Nat) (n59 : Nat) (hm1 : m1 < xn σ) (hc : cc ≤ 2 * D) (hs : ss ≤ 64 * D) (c29 : (xi σ 12 0) ≤ x2) (e59 : (xi σ 12 0) = nI n59) (h59 : n59 < 61) (hp : post none (WC G (wp σ (2 * m1 + 1) n59 ((xi σ 12 0) + 1)))) : Lb K G w0 (Qe K G w0 post (rmk rm_K_layBottom D)) 3 21 [(0, .ref (xa σ 22)), (1, .ref (xa σ (29 + 2 * m1))), (2, .int x2)] [] (WC G σ) cc ss := by
  refine b_iload_n X d_K_layBottom_21 2 rfl rfl ?_
  refine b_aload_n X d_K_layBottom_22 0 rfl rfl ?_
  refine b_get X fl_K_25 22 rfl (v := .ref (xa σ 12)) rfl d_K_layBottom_23 ?_
  refine b_dV X cf_C_end ci_C_end ml_K_107 (ct_C_end_ G σ ) 12 rfl rfl (As := []) (rest := [.int x2]) rfl (Nat.le_of_ble_eq_true rfl) ⟨Nat.le_of_ble_eq_true rfl, Nat.le_of_ble_eq_true rfl⟩ ⟨hc, hs⟩ rfl rfl d_K_layBottom_26 ?_
  refine b_icmp_ge X (tgt := 42) d_K_layBottom_29 (by decide) (fun _ => ?_) (fun h => absurd c29 h)
  refine b_aload_n X d_K_layBottom_42 1 rfl rfl ?_
  refine b_aload_n X d_K_layBottom_43 0 rfl rfl ?_
  refine b_get X fl_K_25 22 rfl (v := .ref (xa σ 12)) rfl d_K_layBottom_44 ?_
  refine b_dV X cf_C_end ci_C_end ml_K_107 (ct_C_end_ G σ ) 12 rfl rfl (As := []) (rest := [.ref (xa σ (29 + 2 * m1))]) rfl (Nat.le_of_ble_eq_true rfl) ⟨Nat.le_of_ble_eq_true rfl, Nat.le_of_ble_eq_true rfl⟩ ⟨hc, hs⟩ rfl rfl d_K_layBottom_47 ?_
  refine b_aload_n X d_K_layBottom_50 0 rfl rfl ?_
  refine b_get X fl_K_25 22 rfl (v := .ref (xa σ 12)) rfl d_K_layBottom_51 ?_
  refine b_dV X cf_C_end ci_C_end ml_K_107 (ct_C_end_ G σ ) 12 rfl rfl (As := []) (rest := [.int (xi σ 12 0), .ref (xa σ (29 + 2 * m1))]) rfl (Nat.le_of_ble_eq_true rfl) ⟨Nat.le_of_ble_eq_true rfl, Nat.le_of_ble_eq_true rfl⟩ ⟨hc, hs⟩ rfl rfl d_K_layBottom_54 ?_
  refine b_iconst X (v := 1) d_K_layBottom_57 (by decide) ?_
  refine b_iadd X d_K_layBottom_58 ?_
  refine b_iast X (29 + 2 * m1) (pg_a G σ hm1) (by decide) n59 e59 h59 (ps_a G σ hm1 n59 ((xi σ 12 0) + 1)) d_K_layBottom_59 ?_
  refine Lb.widen hc hs ?_
  exact b_vret X d_K_layBottom_60 hp
theorem sg_K_layBottom_21_f21 {K : KX} {G : GG} {w0 : va_W} {cc ss D : Nat} {Q : State → Prop} (X : Bd K G w0 "FirstTrees$Walk" c_K_layBottom 3 none (rmk rm_K_layBottom D)) (σ : St) (x2 : Int32) (m1 : Nat) (n35 : Nat) (hm1 : m1 < xn σ) (hc : cc ≤ 2 * D) (hs : ss ≤ 64 * D) (c29 : ¬ (xi σ 12 0) ≤ x2) (e35 : x2 = nI n35) (h35 : n35 < 61) (k : Lb K G w0 Q 3 21 [(0, .ref (xa σ 22)), (1, .ref (xa σ (29 + 2 * m1))), (2, .int (x2 + 1))] [] (WC G (wp σ (2 * m1 + 1) n35 x2)) cc ss) : Lb K G w0 Q 3 21 [(0, .ref (xa σ 22)), (1, .ref (xa σ (29 + 2 * m1))), (2, .int x2)] [] (WC G σ) cc ss := by
  refine b_iload_n X d_K_layBottom_21 2 rfl rfl ?_
  refine b_aload_n X d_K_layBottom_22 0 rfl rfl ?_
  refine b_get X fl_K_25 22 rfl (v := .ref (xa σ 12)) rfl d_K_layBottom_23 ?_
  refine b_dV X cf_C_end ci_C_end ml_K_107 (ct_C_end_ G σ ) 12 rfl rfl (As := []) (rest := [.int x2]) rfl (Nat.le_of_ble_eq_true rfl) ⟨Nat.le_of_ble_eq_true rfl, Nat.le_of_ble_eq_true rfl⟩ ⟨hc, hs⟩ rfl rfl d_K_layBottom_26 ?_
  refine b_icmp_ge X (tgt := 42) d_K_layBottom_29 (by decide) (fun h => absurd h c29) (fun _ => ?_)
  refine b_aload_n X d_K_layBottom_32 1 rfl rfl ?_
  refine b_iload_n X d_K_layBottom_33 2 rfl rfl ?_
  refine b_iload_n X d_K_layBottom_34 2 rfl rfl ?_
  refine b_iast X (29 + 2 * m1) (pg_a G σ hm1) (by decide) n35 e35 h35 (ps_a G σ hm1 n35 x2) d_K_layBottom_35 ?_
  refine b_iinc X (lv' := [(0, .ref (xa σ 22)), (1, .ref (xa σ (29 + 2 * m1))), (2, .int (x2 + 1))]) d_K_layBottom_36 2 rfl (v := (x2 + 1)) rfl (by decide) [1, 2, 0] rfl ?_
  refine b_goto X (tgt := 21) d_K_layBottom_39 (by decide) ?_
  exact k
theorem sg_K_layRow_0_11 {K : KX} {G : GG} {w0 : va_W} {cc ss D : Nat} {Q : State → Prop} (X : Bd K G w0 "FirstTrees$Walk" c_K_layRow 4 none (rmk rm_K_layRow D)) (σ : St) (x1 : Int32) (x2 : Int32)  (n5 : Nat)  (hc : cc ≤ 2 * D) (hs : ss ≤ 64 * D) (e5 : x1 = nI n5) (h5 : n5 < 128) (k : Lb K G w0 Q 4 11 [(0, .ref (xa σ 22)), (1, .int x1), (2, .int x2), (3, .int ((xi σ 3 n5) - 1))] [] (WC G σ) cc ss) : Lb K G w0 Q 4 0 [(0, .ref (xa σ 22)), (1, .int x1), (2, .int x2)] [] (WC G σ) cc ss := by
  refine b_aload_n X d_K_layRow_0 0 rfl rfl ?_
  refine b_get X fl_K_17 22 rfl (v := .ref (xa σ 1)) rfl d_K_layRow_1 ?_
  refine b_iload_n X d_K_layRow_4 1 rfl rfl ?_
  refine b_dV X cf_G_length ci_G_length ml_K_84 (ct_G_length_ G σ x1 n5 e5 h5) 1 rfl rfl (As := [.int x1]) (rest := []) rfl (Nat.le_of_ble_eq_true rfl) ⟨Nat.le_of_ble_eq_true rfl, Nat.le_of_ble_eq_true rfl⟩ ⟨hc, hs⟩ rfl rfl d_K_layRow_5 ?_
  refine b_iconst X (v := 1) d_K_layRow_8 (by decide) ?_
  refine b_isub X d_K_layRow_9 ?_
  refine b_istore_n X (lv' := [(0, .ref (xa σ 22)), (1, .int x1), (2, .int x2), (3, .int ((xi σ 3 n5) - 1))]) d_K_layRow_10 rfl (by decide) [1, 2, 3, 0] rfl ?_
  exact k
theorem sg_K_layRow_11_tr {K : KX} {G : GG} {w0 : va_W} {cc ss D : Nat} {post : PostT} (X : Bd K G w0 "FirstTrees$Walk" c_K_layRow 4 none (rmk rm_K_layRow D)) (σ : St) (x1 : Int32) (x2 : Int32) (x3 : Int32)    (hc : cc ≤ 2 * D) (hs : ss ≤ 64 * D) (c12 : x3 < 0) (hp : post none (WC G σ)) : Lb K G w0 (Qe K G w0 post (rmk rm_K_layRow D)) 4 11 [(0, .ref (xa σ 22)), (1, .int x1), (2, .int x2), (3, .int x3)] [] (WC G σ) cc ss := by
  refine b_iload_n X d_K_layRow_11 3 rfl rfl ?_
  refine b_if_lt X (tgt := 43) d_K_layRow_12 (by decide) (fun _ => ?_) (fun h => absurd c12 h)
  refine Lb.widen hc hs ?_
  exact b_vret X d_K_layRow_43 hp
theorem sg_K_layRow_11_ft11 {K : KX} {G : GG} {w0 : va_W} {cc ss D : Nat} {Q : State → Prop} (X : Bd K G w0 "FirstTrees$Walk" c_K_layRow 4 none (rmk rm_K_layRow D)) (σ : St) (x1 : Int32) (x2 : Int32) (x3 : Int32)  (n22 : Nat) (δ26 : Nat) (q26 : Sq)  (hc : cc ≤ 2 * D) (hs : ss ≤ 64 * D) (c12 : ¬ x3 < 0) (e22 : ((x1 * 8) + x3) = nI n22) (h22 : n22 < 1024) (t26 : Ct y_K_lay c_K_lay 3 none (rmk rm_K_lay δ26) G [.ref (xa σ 22), .int (xi σ 4 n22), .int x2] (WC G σ) (PA G (xa σ) none q26)) (hc26 : cc + 2 * δ26 ≤ 2 * D) (hs26 : ss + 64 * δ26 ≤ 64 * D) (c30 : x3 ≤ 0) (k : ∀ f : Nat → Nat, (∀ k, k < 28 → f k = xa σ k) → Lb K G w0 Q 4 11 [(0, .ref (f 22)), (1, .int x1), (2, .int x2), (3, .int (x3 + (-1)))] [] (WC G (f, q26)) (cc + 2 * δ26) (ss + 64 * δ26)) : Lb K G w0 Q 4 11 [(0, .ref (xa σ 22)), (1, .int x1), (2, .int x2), (3, .int x3)] [] (WC G σ) cc ss := by
  refine b_iload_n X d_K_layRow_11 3 rfl rfl ?_
  refine b_if_lt X (tgt := 43) d_K_layRow_12 (by decide) (fun h => absurd h c12) (fun _ => ?_)
  refine b_aload_n X d_K_layRow_15 0 rfl rfl ?_
  refine b_aload_n X d_K_layRow_16 0 rfl rfl ?_
  refine b_get X fl_K_17 22 rfl (v := .ref (xa σ 1)) rfl d_K_layRow_17 ?_
  refine b_iload_n X d_K_layRow_20 1 rfl rfl ?_
  refine b_iload_n X d_K_layRow_21 3 rfl rfl ?_
  refine b_dV X cf_G_symbolAt ci_G_symbolAt ml_K_146 (ct_G_symbolAt_ G σ x1 x3 n22 e22 h22) 1 rfl rfl (As := [.int x1, .int x3]) (rest := [.ref (xa σ 22)]) rfl (Nat.le_of_ble_eq_true rfl) ⟨Nat.le_of_ble_eq_true rfl, Nat.le_of_ble_eq_true rfl⟩ ⟨hc, hs⟩ rfl rfl d_K_layRow_22 ?_
  refine b_iload_n X d_K_layRow_25 2 rfl rfl ?_
  refine b_callV X cf_K_lay ci_K_lay ml_K_44 t26 22 rfl rfl (As := [.int (xi σ 4 n22), .int x2]) (rest := []) rfl (Nat.le_of_ble_eq_true rfl) ⟨Nat.le_of_ble_eq_true rfl, Nat.le_of_ble_eq_true rfl⟩ ⟨hc26, hs26⟩ rfl d_K_layRow_26 (fun v' w' hp' => ?_)
  obtain ⟨rfl, f26, a26, rfl⟩ := hp'
  refine Lb.eq (st' := []) rfl rfl rfl ?_
  rw [← a26 22 (by decide)]
  refine b_iload_n X d_K_layRow_29 3 rfl rfl ?_
  refine b_if_le X (tgt := 37) d_K_layRow_30 (by decide) (fun _ => ?_) (fun h => absurd c30 h)
  refine b_iinc X (lv' := [(0, .ref (f26 22)), (1, .int x1), (2, .int x2), (3, .int (x3 + (-1)))]) d_K_layRow_37 3 rfl (v := (x3 + (-1))) rfl (by decide) [1, 2, 3, 0] rfl ?_
  refine b_goto X (tgt := 11) d_K_layRow_40 (by decide) ?_
  exact k f26 a26
theorem sg_K_layRow_11_ff11 {K : KX} {G : GG} {w0 : va_W} {cc ss D : Nat} {Q : State → Prop} (X : Bd K G w0 "FirstTrees$Walk" c_K_layRow 4 none (rmk rm_K_layRow D)) (σ : St) (x1 : Int32) (x2 : Int32) (x3 : Int32)  (n22 : Nat) (δ26 : Nat) (q26 : Sq) (q34 : Sq)  (hc : cc ≤ 2 * D) (hs : ss ≤ 64 * D) (c12 : ¬ x3 < 0) (e22 : ((x1 * 8) + x3) = nI n22) (h22 : n22 < 1024) (t26 : Ct y_K_lay c_K_lay 3 none (rmk rm_K_lay δ26) G [.ref (xa σ 22), .int (xi σ 4 n22), .int x2] (WC G σ) (PA G (xa σ) none q26)) (hc26 : cc + 2 * δ26 ≤ 2 * D) (hs26 : ss + 64 * δ26 ≤ 64 * D) (c30 : ¬ x3 ≤ 0) (t34 : ∀ f : Nat → Nat, (∀ k, k < 28 → f k = xa σ k) → Ct y_K_findReaches c_K_findReaches 6 none rm_K_findReaches G [.ref (f 22)] (WC G (f, q26)) (eqp (none) (WC G (f, q34)))) (k : ∀ f : Nat → Nat, (∀ k, k < 28 → f k = xa σ k) → Lb K G w0 Q 4 11 [(0, .ref (f 22)), (1, .int x1), (2, .int x2), (3, .int (x3 + (-1)))] [] (WC G (f, q34)) (cc + 2 * δ26) (ss + 64 * δ26)) : Lb K G w0 Q 4 11 [(0, .ref (xa σ 22)), (1, .int x1), (2, .int x2), (3, .int x3)] [] (WC G σ) cc ss := by
  refine b_iload_n X d_K_layRow_11 3 rfl rfl ?_
  refine b_if_lt X (tgt := 43) d_K_layRow_12 (by decide) (fun h => absurd h c12) (fun _ => ?_)
  refine b_aload_n X d_K_layRow_15 0 rfl rfl ?_
  refine b_aload_n X d_K_layRow_16 0 rfl rfl ?_
  refine b_get X fl_K_17 22 rfl (v := .ref (xa σ 1)) rfl d_K_layRow_17 ?_
  refine b_iload_n X d_K_layRow_20 1 rfl rfl ?_
  refine b_iload_n X d_K_layRow_21 3 rfl rfl ?_
  refine b_dV X cf_G_symbolAt ci_G_symbolAt ml_K_146 (ct_G_symbolAt_ G σ x1 x3 n22 e22 h22) 1 rfl rfl (As := [.int x1, .int x3]) (rest := [.ref (xa σ 22)]) rfl (Nat.le_of_ble_eq_true rfl) ⟨Nat.le_of_ble_eq_true rfl, Nat.le_of_ble_eq_true rfl⟩ ⟨hc, hs⟩ rfl rfl d_K_layRow_22 ?_
  refine b_iload_n X d_K_layRow_25 2 rfl rfl ?_
  refine b_callV X cf_K_lay ci_K_lay ml_K_44 t26 22 rfl rfl (As := [.int (xi σ 4 n22), .int x2]) (rest := []) rfl (Nat.le_of_ble_eq_true rfl) ⟨Nat.le_of_ble_eq_true rfl, Nat.le_of_ble_eq_true rfl⟩ ⟨hc26, hs26⟩ rfl d_K_layRow_26 (fun v' w' hp' => ?_)
  obtain ⟨rfl, f26, a26, rfl⟩ := hp'
  refine Lb.eq (st' := []) rfl rfl rfl ?_
  rw [← a26 22 (by decide)]
  refine b_iload_n X d_K_layRow_29 3 rfl rfl ?_
  refine b_if_le X (tgt := 37) d_K_layRow_30 (by decide) (fun h => absurd h c30) (fun _ => ?_)
  refine b_aload_n X d_K_layRow_33 0 rfl rfl ?_
  refine b_dV X cf_K_findReaches ci_K_findReaches ml_K_149 (t34 f26 a26) 22 rfl rfl (As := []) (rest := []) rfl (Nat.le_of_ble_eq_true rfl) ⟨Nat.le_of_ble_eq_true rfl, Nat.le_of_ble_eq_true rfl⟩ ⟨hc26, hs26⟩ rfl rfl d_K_layRow_34 ?_
  refine b_iinc X (lv' := [(0, .ref (f26 22)), (1, .int x1), (2, .int x2), (3, .int (x3 + (-1)))]) d_K_layRow_37 3 rfl (v := (x3 + (-1))) rfl (by decide) [1, 2, 3, 0] rfl ?_
  refine b_goto X (tgt := 11) d_K_layRow_40 (by decide) ?_
  exact k f26 a26
theorem sg_K_replace_0_tr {K : KX} {G : GG} {w0 : va_W} {cc ss D : Nat} {post : PostT} (X : Bd K G w0 "FirstTrees$Walk" c_K_replace 8 (some .boolean) (rmk rm_K_replace D)) (σ : St) (x1 : Int32) (x2 : Int32)  (r2 : Int32) (r21 : Int32) (n59 : Nat) (r65 : Int32) (q65 : Sq) (r84 : Int32) (q87 : Sq) (δ95 : Nat) (q95 : Sq)  (hc : cc ≤ 2 * D) (hs : ss ≤ 64 * D) (t2 : Ct y_K_firstFitting c_K_firstFitting 4 (some .int) rm_K_firstFitting G [.ref (xa σ 22), .int x1] (WC G σ) (eqp (some (.int r2)) (WC G σ))) (t21 : Ct y_G_rulesIn c_G_rulesIn 4 (some .int) rm_G_rulesIn G [.ref (xa σ 1), .int ((x1 * 8) + r2)] (WC G σ) (eqp (some (.int r21)) (WC G σ))) (c44 : ((xi σ 22 2) + r21) ≤ 2000) (e59 : ((x1 * 8) + r2) = nI n59) (h59 : n59 < 128) (t65 : Ct y_T_add c_T_add 5 (some .int) rm_T_add G [.ref (xa σ 26), .int x2, .int r21, .int ((xi σ 3 n59) - r21)] (WC G (wi σ 22 2 ((xi σ 22 2) + r21))) (eqp (some (.int r65)) (WC G (xa σ, q65)))) (t84 : Ct y_K_look c_K_look 5 (some .int) rm_K_look G [.ref (xa σ 22), .int x1, .int r2] (WC G (xa σ, q65)) (eqp (some (.int r84)) (WC G (xa σ, q65)))) (t87 : Ct y_T_choose c_T_choose 7 none rm_T_choose G [.ref (xa σ 26), .int r65, .int x1, .int r2, .int (xi (xa σ, q65) 22 1), .int r84] (WC G (xa σ, q65)) (eqp (none) (WC G (xa σ, q87)))) (t95 : Ct y_K_layRow c_K_layRow 4 none (rmk rm_K_layRow δ95) G [.ref (xa σ 22), .int ((x1 * 8) + r2), .int r65] (WC G (xa σ, q87)) (PA G (xa σ) none q95)) (hc95 : cc + 2 * δ95 ≤ 2 * D) (hs95 : ss + 64 * δ95 ≤ 64 * D) (hp : ∀ f : Nat → Nat, (∀ k, k < 28 → f k = xa σ k) → post (some (.int 1)) (WC G (f, q95))) : Lb K G w0 (Qe K G w0 post (rmk rm_K_replace D)) 8 0 [(0, .ref (xa σ 22)), (1, .int x1), (2, .int x2), (3, .ref (xa σ 26))] [] (WC G σ) cc ss := by
  refine b_aload_n X d_K_replace_0 0 rfl rfl ?_
  refine b_iload_n X d_K_replace_1 1 rfl rfl ?_
  refine b_dV X cf_K_firstFitting ci_K_firstFitting ml_K_74 t2 22 rfl rfl (As := [.int x1]) (rest := []) rfl (Nat.le_of_ble_eq_true rfl) ⟨Nat.le_of_ble_eq_true rfl, Nat.le_of_ble_eq_true rfl⟩ ⟨hc, hs⟩ rfl rfl d_K_replace_2 ?_
  refine b_istore X (lv' := [(0, .ref (xa σ 22)), (1, .int x1), (2, .int x2), (3, .ref (xa σ 26)), (4, .int r2)]) d_K_replace_5 (by decide) [1, 2, 3, 4, 0] rfl ?_
  refine b_iload_n X d_K_replace_7 1 rfl rfl ?_
  refine b_iload X d_K_replace_8 4 rfl ?_
  refine b_dS X cf_G_row ci_G_row ml_K_77 (ct_G_row_ G σ x1 r2) (As := [.int x1, .int r2]) (rest := []) rfl (Nat.le_of_ble_eq_true rfl) ⟨Nat.le_of_ble_eq_true rfl, Nat.le_of_ble_eq_true rfl⟩ ⟨hc, hs⟩ rfl rfl d_K_replace_10 ?_
  refine b_istore X (lv' := [(0, .ref (xa σ 22)), (1, .int x1), (2, .int x2), (3, .ref (xa σ 26)), (4, .int r2), (5, .int ((x1 * 8) + r2))]) d_K_replace_13 (by decide) [1, 2, 3, 4, 5, 0] rfl ?_
  refine b_aload_n X d_K_replace_15 0 rfl rfl ?_
  refine b_get X fl_K_17 22 rfl (v := .ref (xa σ 1)) rfl d_K_replace_16 ?_
  refine b_iload X d_K_replace_19 5 rfl ?_
  refine b_dV X cf_G_rulesIn ci_G_rulesIn ml_K_81 t21 1 rfl rfl (As := [.int ((x1 * 8) + r2)]) (rest := []) rfl (Nat.le_of_ble_eq_true rfl) ⟨Nat.le_of_ble_eq_true rfl, Nat.le_of_ble_eq_true rfl⟩ ⟨hc, hs⟩ rfl rfl d_K_replace_21 ?_
  refine b_istore X (lv' := [(0, .ref (xa σ 22)), (1, .int x1), (2, .int x2), (3, .ref (xa σ 26)), (4, .int r2), (5, .int ((x1 * 8) + r2)), (6, .int r21)]) d_K_replace_24 (by decide) [1, 2, 3, 4, 5, 6, 0] rfl ?_
  refine b_aload_n X d_K_replace_26 0 rfl rfl ?_
  refine b_dup X d_K_replace_27 rfl ?_
  refine b_get X fl_K_38 22 rfl (v := .int (xi σ 22 2)) rfl d_K_replace_28 ?_
  refine b_iload X d_K_replace_31 6 rfl ?_
  refine b_iadd X d_K_replace_33 ?_
  refine b_put X fl_K_38 pl_K_nodesDue 22 rfl rfl rfl (Nat.le_of_ble_eq_true rfl) (uWC_22_nodesDue G σ ((xi σ 22 2) + r21)) d_K_replace_34 ?_
  refine b_aload_n X d_K_replace_37 0 rfl rfl ?_
  refine b_get X fl_K_38 22 rfl (v := .int ((xi σ 22 2) + r21)) rfl d_K_replace_38 ?_
  refine b_sipush X (v := 2000) d_K_replace_41 (by decide) ?_
  refine b_icmp_le X (tgt := 49) d_K_replace_44 (by decide) (fun _ => ?_) (fun h => absurd c44 h)
  refine b_aload_n X d_K_replace_49 3 rfl rfl ?_
  refine b_iload_n X d_K_replace_50 2 rfl rfl ?_
  refine b_iload X d_K_replace_51 6 rfl ?_
  refine b_aload_n X d_K_replace_53 0 rfl rfl ?_
  refine b_get X fl_K_17 22 rfl (v := .ref (xa σ 1)) rfl d_K_replace_54 ?_
  refine b_iload X d_K_replace_57 5 rfl ?_
  refine b_dV X cf_G_length ci_G_length ml_K_84 (ct_G_length_ G (wi σ 22 2 ((xi σ 22 2) + r21)) ((x1 * 8) + r2) n59 e59 h59) 1 rfl rfl (As := [.int ((x1 * 8) + r2)]) (rest := [.int r21, .int x2, .ref (xa σ 26)]) rfl (Nat.le_of_ble_eq_true rfl) ⟨Nat.le_of_ble_eq_true rfl, Nat.le_of_ble_eq_true rfl⟩ ⟨hc, hs⟩ rfl rfl d_K_replace_59 ?_
  refine b_iload X d_K_replace_62 6 rfl ?_
  refine b_isub X d_K_replace_64 ?_
  refine b_dV X cf_T_add ci_T_add ml_K_87 t65 26 rfl rfl (As := [.int x2, .int r21, .int ((xi σ 3 n59) - r21)]) (rest := []) rfl (Nat.le_of_ble_eq_true rfl) ⟨Nat.le_of_ble_eq_true rfl, Nat.le_of_ble_eq_true rfl⟩ ⟨hc, hs⟩ rfl rfl d_K_replace_65 ?_
  refine b_istore X (lv' := [(0, .ref (xa σ 22)), (1, .int x1), (2, .int x2), (3, .ref (xa σ 26)), (4, .int r2), (5, .int ((x1 * 8) + r2)), (6, .int r21), (7, .int r65)]) d_K_replace_68 (by decide) [1, 2, 3, 4, 5, 6, 7, 0] rfl ?_
  refine b_aload_n X d_K_replace_70 3 rfl rfl ?_
  refine b_iload X d_K_replace_71 7 rfl ?_
  refine b_iload_n X d_K_replace_73 1 rfl rfl ?_
  refine b_iload X d_K_replace_74 4 rfl ?_
  refine b_aload_n X d_K_replace_76 0 rfl rfl ?_
  refine b_get X fl_K_34 22 rfl (v := .int (xi (xa σ, q65) 22 1)) rfl d_K_replace_77 ?_
  refine b_aload_n X d_K_replace_80 0 rfl rfl ?_
  refine b_iload_n X d_K_replace_81 1 rfl rfl ?_
  refine b_iload X d_K_replace_82 4 rfl ?_
  refine b_dV X cf_K_look ci_K_look ml_K_91 t84 22 rfl rfl (As := [.int x1, .int r2]) (rest := [.int (xi (xa σ, q65) 22 1), .int r2, .int x1, .int r65, .ref (xa σ 26)]) rfl (Nat.le_of_ble_eq_true rfl) ⟨Nat.le_of_ble_eq_true rfl, Nat.le_of_ble_eq_true rfl⟩ ⟨hc, hs⟩ rfl rfl d_K_replace_84 ?_
  refine b_dV X cf_T_choose ci_T_choose ml_K_94 t87 26 rfl rfl (As := [.int r65, .int x1, .int r2, .int (xi (xa σ, q65) 22 1), .int r84]) (rest := []) rfl (Nat.le_of_ble_eq_true rfl) ⟨Nat.le_of_ble_eq_true rfl, Nat.le_of_ble_eq_true rfl⟩ ⟨hc, hs⟩ rfl rfl d_K_replace_87 ?_
  refine b_aload_n X d_K_replace_90 0 rfl rfl ?_
  refine b_iload X d_K_replace_91 5 rfl ?_
  refine b_iload X d_K_replace_93 7 rfl ?_
  refine b_callV X cf_K_layRow ci_K_layRow ml_K_98 t95 22 rfl rfl (As := [.int ((x1 * 8) + r2), .int r65]) (rest := []) rfl (Nat.le_of_ble_eq_true rfl) ⟨Nat.le_of_ble_eq_true rfl, Nat.le_of_ble_eq_true rfl⟩ ⟨hc95, hs95⟩ rfl d_K_replace_95 (fun v' w' hp' => ?_)
  obtain ⟨rfl, f95, a95, rfl⟩ := hp'
  refine Lb.eq (st' := []) rfl rfl rfl ?_
  rw [← a95 22 (by decide)]
  rw [← a95 26 (by decide)]
  refine b_iconst X (v := 1) d_K_replace_98 (by decide) ?_
  refine Lb.widen hc95 hs95 ?_
  exact b_zret X rfl d_K_replace_99 (hp f95 a95)
theorem sg_K_replace_0_fr {K : KX} {G : GG} {w0 : va_W} {cc ss D : Nat} {post : PostT} (X : Bd K G w0 "FirstTrees$Walk" c_K_replace 8 (some .boolean) (rmk rm_K_replace D)) (σ : St) (x1 : Int32) (x2 : Int32)  (r2 : Int32) (r21 : Int32)  (hc : cc ≤ 2 * D) (hs : ss ≤ 64 * D) (t2 : Ct y_K_firstFitting c_K_firstFitting 4 (some .int) rm_K_firstFitting G [.ref (xa σ 22), .int x1] (WC G σ) (eqp (some (.int r2)) (WC G σ))) (t21 : Ct y_G_rulesIn c_G_rulesIn 4 (some .int) rm_G_rulesIn G [.ref (xa σ 1), .int ((x1 * 8) + r2)] (WC G σ) (eqp (some (.int r21)) (WC G σ))) (c44 : ¬ ((xi σ 22 2) + r21) ≤ 2000) (hp : post (some (.int 0)) (WC G (wi σ 22 2 ((xi σ 22 2) + r21)))) : Lb K G w0 (Qe K G w0 post (rmk rm_K_replace D)) 8 0 [(0, .ref (xa σ 22)), (1, .int x1), (2, .int x2), (3, .ref (xa σ 26))] [] (WC G σ) cc ss := by
  refine b_aload_n X d_K_replace_0 0 rfl rfl ?_
  refine b_iload_n X d_K_replace_1 1 rfl rfl ?_
  refine b_dV X cf_K_firstFitting ci_K_firstFitting ml_K_74 t2 22 rfl rfl (As := [.int x1]) (rest := []) rfl (Nat.le_of_ble_eq_true rfl) ⟨Nat.le_of_ble_eq_true rfl, Nat.le_of_ble_eq_true rfl⟩ ⟨hc, hs⟩ rfl rfl d_K_replace_2 ?_
  refine b_istore X (lv' := [(0, .ref (xa σ 22)), (1, .int x1), (2, .int x2), (3, .ref (xa σ 26)), (4, .int r2)]) d_K_replace_5 (by decide) [1, 2, 3, 4, 0] rfl ?_
  refine b_iload_n X d_K_replace_7 1 rfl rfl ?_
  refine b_iload X d_K_replace_8 4 rfl ?_
  refine b_dS X cf_G_row ci_G_row ml_K_77 (ct_G_row_ G σ x1 r2) (As := [.int x1, .int r2]) (rest := []) rfl (Nat.le_of_ble_eq_true rfl) ⟨Nat.le_of_ble_eq_true rfl, Nat.le_of_ble_eq_true rfl⟩ ⟨hc, hs⟩ rfl rfl d_K_replace_10 ?_
  refine b_istore X (lv' := [(0, .ref (xa σ 22)), (1, .int x1), (2, .int x2), (3, .ref (xa σ 26)), (4, .int r2), (5, .int ((x1 * 8) + r2))]) d_K_replace_13 (by decide) [1, 2, 3, 4, 5, 0] rfl ?_
  refine b_aload_n X d_K_replace_15 0 rfl rfl ?_
  refine b_get X fl_K_17 22 rfl (v := .ref (xa σ 1)) rfl d_K_replace_16 ?_
  refine b_iload X d_K_replace_19 5 rfl ?_
  refine b_dV X cf_G_rulesIn ci_G_rulesIn ml_K_81 t21 1 rfl rfl (As := [.int ((x1 * 8) + r2)]) (rest := []) rfl (Nat.le_of_ble_eq_true rfl) ⟨Nat.le_of_ble_eq_true rfl, Nat.le_of_ble_eq_true rfl⟩ ⟨hc, hs⟩ rfl rfl d_K_replace_21 ?_
  refine b_istore X (lv' := [(0, .ref (xa σ 22)), (1, .int x1), (2, .int x2), (3, .ref (xa σ 26)), (4, .int r2), (5, .int ((x1 * 8) + r2)), (6, .int r21)]) d_K_replace_24 (by decide) [1, 2, 3, 4, 5, 6, 0] rfl ?_
  refine b_aload_n X d_K_replace_26 0 rfl rfl ?_
  refine b_dup X d_K_replace_27 rfl ?_
  refine b_get X fl_K_38 22 rfl (v := .int (xi σ 22 2)) rfl d_K_replace_28 ?_
  refine b_iload X d_K_replace_31 6 rfl ?_
  refine b_iadd X d_K_replace_33 ?_
  refine b_put X fl_K_38 pl_K_nodesDue 22 rfl rfl rfl (Nat.le_of_ble_eq_true rfl) (uWC_22_nodesDue G σ ((xi σ 22 2) + r21)) d_K_replace_34 ?_
  refine b_aload_n X d_K_replace_37 0 rfl rfl ?_
  refine b_get X fl_K_38 22 rfl (v := .int ((xi σ 22 2) + r21)) rfl d_K_replace_38 ?_
  refine b_sipush X (v := 2000) d_K_replace_41 (by decide) ?_
  refine b_icmp_le X (tgt := 49) d_K_replace_44 (by decide) (fun h => absurd h c44) (fun _ => ?_)
  refine b_iconst X (v := 0) d_K_replace_47 (by decide) ?_
  refine Lb.widen hc hs ?_
  exact b_zret X rfl d_K_replace_48 hp
theorem sg_K_derive_0_26 {K : KX} {G : GG} {w0 : va_W} {cc ss D : Nat} {Q : State → Prop} (X : Bd K G w0 "FirstTrees$Walk" c_K_derive 4 (some .boolean) (rmk rm_K_derive D)) (σ : St)   (q1 : Sq) (δ15 : Nat) (q15 : Sq) (δ21 : Nat) (q21 : Sq)  (hc : cc ≤ 2 * D) (hs : ss ≤ 64 * D) (t1 : Ct y_T_empty c_T_empty 1 none rm_T_empty G [.ref (xa σ 26)] (WC G σ) (eqp (none) (WC G (xa σ, q1)))) (t15 : Ct y_K_layBottom c_K_layBottom 3 none (rmk rm_K_layBottom δ15) G [.ref (xa σ 22)] (WC G (wi (wi (xa σ, q1) 22 1 0) 22 2 1)) (PA G (xa σ) none q15)) (hc15 : cc + 2 * δ15 ≤ 2 * D) (hs15 : ss + 64 * δ15 ≤ 64 * D) (t21 : ∀ f : Nat → Nat, (∀ k, k < 28 → f k = xa σ k) → Ct y_K_lay c_K_lay 3 none (rmk rm_K_lay δ21) G [.ref (f 22), .int (-1), .int (-1)] (WC G (f, q15)) (PA G f none q21)) (hc21 : (cc + 2 * δ15) + 2 * δ21 ≤ 2 * D) (hs21 : (ss + 64 * δ15) + 64 * δ21 ≤ 64 * D) (k : ∀ f : Nat → Nat, (∀ k, k < 28 → f k = xa σ k) → Lb K G w0 Q 4 26 [(0, .ref (f 22)), (1, .ref (f 26)), (2, .int 0)] [] (WC G (f, q21)) ((cc + 2 * δ15) + 2 * δ21) ((ss + 64 * δ15) + 64 * δ21)) : Lb K G w0 Q 4 0 [(0, .ref (xa σ 22)), (1, .ref (xa σ 26))] [] (WC G σ) cc ss := by
  refine b_aload_n X d_K_derive_0 1 rfl rfl ?_
  refine b_dV X cf_T_empty ci_T_empty ml_K_29 t1 26 rfl rfl (As := []) (rest := []) rfl (Nat.le_of_ble_eq_true rfl) ⟨Nat.le_of_ble_eq_true rfl, Nat.le_of_ble_eq_true rfl⟩ ⟨hc, hs⟩ rfl rfl d_K_derive_1 ?_
  refine b_aload_n X d_K_derive_4 0 rfl rfl ?_
  refine b_iconst X (v := 0) d_K_derive_5 (by decide) ?_
  refine b_put X fl_K_34 pl_K_place 22 rfl rfl rfl (Nat.le_of_ble_eq_true rfl) (uWC_22_place G (xa σ, q1) 0) d_K_derive_6 ?_
  refine b_aload_n X d_K_derive_9 0 rfl rfl ?_
  refine b_iconst X (v := 1) d_K_derive_10 (by decide) ?_
  refine b_put X fl_K_38 pl_K_nodesDue 22 rfl rfl rfl (Nat.le_of_ble_eq_true rfl) (uWC_22_nodesDue G (wi (xa σ, q1) 22 1 0) 1) d_K_derive_11 ?_
  refine b_aload_n X d_K_derive_14 0 rfl rfl ?_
  refine b_callV X cf_K_layBottom ci_K_layBottom ml_K_41 t15 22 rfl rfl (As := []) (rest := []) rfl (Nat.le_of_ble_eq_true rfl) ⟨Nat.le_of_ble_eq_true rfl, Nat.le_of_ble_eq_true rfl⟩ ⟨hc15, hs15⟩ rfl d_K_derive_15 (fun v' w' hp' => ?_)
  obtain ⟨rfl, f15, a15, rfl⟩ := hp'
  refine Lb.eq (st' := []) rfl rfl rfl ?_
  rw [← a15 22 (by decide)]
  rw [← a15 26 (by decide)]
  refine b_aload_n X d_K_derive_18 0 rfl rfl ?_
  refine b_iconst X (v := (-1)) d_K_derive_19 (by decide) ?_
  refine b_iconst X (v := (-1)) d_K_derive_20 (by decide) ?_
  refine b_callV X cf_K_lay ci_K_lay ml_K_44 (t21 f15 a15) 22 rfl rfl (As := [.int (-1), .int (-1)]) (rest := []) rfl (Nat.le_of_ble_eq_true rfl) ⟨Nat.le_of_ble_eq_true rfl, Nat.le_of_ble_eq_true rfl⟩ ⟨hc21, hs21⟩ rfl d_K_derive_21 (fun v' w' hp' => ?_)
  obtain ⟨rfl, f21, a21, rfl⟩ := hp'
  refine Lb.eq (st' := []) rfl rfl rfl ?_
  rw [← a21 22 (by decide)]
  rw [← a21 26 (by decide)]
  refine b_iconst X (v := 0) d_K_derive_24 (by decide) ?_
  refine b_istore_n X (lv' := [(0, .ref (f21 22)), (1, .ref (f21 26)), (2, .int 0)]) d_K_derive_25 rfl (by decide) [1, 2, 0] rfl ?_
  exact k f21 (fun k hk => (a21 k hk).trans (a15 k hk))
theorem sg_K_derive_26_tr {K : KX} {G : GG} {w0 : va_W} {cc ss D : Nat} {post : PostT} (X : Bd K G w0 "FirstTrees$Walk" c_K_derive 4 (some .boolean) (rmk rm_K_derive D)) (σ : St) (x2 : Int32)  (q111 : Sq)  (hc : cc ≤ 2 * D) (hs : ss ≤ 64 * D) (c30 : 2060 ≤ x2) (t111 : Ct y_T_findEnds c_T_findEnds 5 none rm_T_findEnds G [.ref (xa σ 26)] (WC G σ) (eqp (none) (WC G (xa σ, q111)))) (hp : post (some (.int 1)) (WC G (xa σ, q111))) : Lb K G w0 (Qe K G w0 post (rmk rm_K_derive D)) 4 26 [(0, .ref (xa σ 22)), (1, .ref (xa σ 26)), (2, .int x2)] [] (WC G σ) cc ss := by
  refine b_iload_n X d_K_derive_26 2 rfl rfl ?_
  refine b_sipush X (v := 2060) d_K_derive_27 (by decide) ?_
  refine b_icmp_ge X (tgt := 110) d_K_derive_30 (by decide) (fun _ => ?_) (fun h => absurd c30 h)
  refine b_aload_n X d_K_derive_110 1 rfl rfl ?_
  refine b_dV X cf_T_findEnds ci_T_findEnds ml_K_71 t111 26 rfl rfl (As := []) (rest := []) rfl (Nat.le_of_ble_eq_true rfl) ⟨Nat.le_of_ble_eq_true rfl, Nat.le_of_ble_eq_true rfl⟩ ⟨hc, hs⟩ rfl rfl d_K_derive_111 ?_
  refine b_iconst X (v := 1) d_K_derive_114 (by decide) ?_
  refine Lb.widen hc hs ?_
  exact b_zret X rfl d_K_derive_115 hp
theorem sg_K_derive_26_ftr {K : KX} {G : GG} {w0 : va_W} {cc ss D : Nat} {post : PostT} (X : Bd K G w0 "FirstTrees$Walk" c_K_derive 4 (some .boolean) (rmk rm_K_derive D)) (σ : St) (x2 : Int32)  (q111 : Sq)  (hc : cc ≤ 2 * D) (hs : ss ≤ 64 * D) (c30 : ¬ 2060 ≤ x2) (c37 : (xi σ 22 0) ≤ 0) (t111 : Ct y_T_findEnds c_T_findEnds 5 none rm_T_findEnds G [.ref (xa σ 26)] (WC G σ) (eqp (none) (WC G (xa σ, q111)))) (hp : post (some (.int 1)) (WC G (xa σ, q111))) : Lb K G w0 (Qe K G w0 post (rmk rm_K_derive D)) 4 26 [(0, .ref (xa σ 22)), (1, .ref (xa σ 26)), (2, .int x2)] [] (WC G σ) cc ss := by
  refine b_iload_n X d_K_derive_26 2 rfl rfl ?_
  refine b_sipush X (v := 2060) d_K_derive_27 (by decide) ?_
  refine b_icmp_ge X (tgt := 110) d_K_derive_30 (by decide) (fun h => absurd h c30) (fun _ => ?_)
  refine b_aload_n X d_K_derive_33 0 rfl rfl ?_
  refine b_get X fl_K_48 22 rfl (v := .int (xi σ 22 0)) rfl d_K_derive_34 ?_
  refine b_if_le X (tgt := 110) d_K_derive_37 (by decide) (fun _ => ?_) (fun h => absurd c37 h)
  refine b_aload_n X d_K_derive_110 1 rfl rfl ?_
  refine b_dV X cf_T_findEnds ci_T_findEnds ml_K_71 t111 26 rfl rfl (As := []) (rest := []) rfl (Nat.le_of_ble_eq_true rfl) ⟨Nat.le_of_ble_eq_true rfl, Nat.le_of_ble_eq_true rfl⟩ ⟨hc, hs⟩ rfl rfl d_K_derive_111 ?_
  refine b_iconst X (v := 1) d_K_derive_114 (by decide) ?_
  refine Lb.widen hc hs ?_
  exact b_zret X rfl d_K_derive_115 hp
theorem sg_K_derive_26_fftt26 {K : KX} {G : GG} {w0 : va_W} {cc ss D : Nat} {Q : State → Prop} (X : Bd K G w0 "FirstTrees$Walk" c_K_derive 4 (some .boolean) (rmk rm_K_derive D)) (σ : St) (x2 : Int32)  (n48 : Nat) (r96 : Int32) (δ96 : Nat) (q96 : Sq)  (hc : cc ≤ 2 * D) (hs : ss ≤ 64 * D) (c30 : ¬ 2060 ≤ x2) (c37 : ¬ (xi σ 22 0) ≤ 0) (e48 : (xi σ 22 0) = nI n48) (h48 : n48 < 2061) (g48 : n48 < xn σ) (c67 : (b2i (0 ≤ (xp (wi σ 22 0 ((xi σ 22 0) - 1)) (2 * n48) 0))) = 0) (t96 : Ct y_K_replace c_K_replace 8 (some .boolean) (rmk rm_K_replace δ96) G [.ref (xa σ 22), .int ((-1) - (xp (wi σ 22 0 ((xi σ 22 0) - 1)) (2 * n48) 0)), .int (xp (wi σ 22 0 ((xi σ 22 0) - 1)) (2 * n48) 1), .ref (xa σ 26)] (WC G (wi σ 22 0 ((xi σ 22 0) - 1))) (PA G (xa σ) (some (.int r96)) q96)) (hc96 : cc + 2 * δ96 ≤ 2 * D) (hs96 : ss + 64 * δ96 ≤ 64 * D) (c99 : ¬ r96 = 0) (k : ∀ f : Nat → Nat, (∀ k, k < 28 → f k = xa σ k) → Lb K G w0 Q 4 26 [(0, .ref (f 22)), (1, .ref (f 26)), (2, .int (x2 + 1))] [] (WC G (f, q96)) (cc + 2 * δ96) (ss + 64 * δ96)) : Lb K G w0 Q 4 26 [(0, .ref (xa σ 22)), (1, .ref (xa σ 26)), (2, .int x2)] [] (WC G σ) cc ss := by
  refine b_iload_n X d_K_derive_26 2 rfl rfl ?_
  refine b_sipush X (v := 2060) d_K_derive_27 (by decide) ?_
  refine b_icmp_ge X (tgt := 110) d_K_derive_30 (by decide) (fun h => absurd h c30) (fun _ => ?_)
  refine b_aload_n X d_K_derive_33 0 rfl rfl ?_
  refine b_get X fl_K_48 22 rfl (v := .int (xi σ 22 0)) rfl d_K_derive_34 ?_
  refine b_if_le X (tgt := 110) d_K_derive_37 (by decide) (fun h => absurd h c37) (fun _ => ?_)
  refine b_aload_n X d_K_derive_40 0 rfl rfl ?_
  refine b_get X fl_K_13 22 rfl (v := .ref (xa σ 23)) rfl d_K_derive_41 ?_
  refine b_aload_n X d_K_derive_44 0 rfl rfl ?_
  refine b_get X fl_K_48 22 rfl (v := .int (xi σ 22 0)) rfl d_K_derive_45 ?_
  refine b_aald X 23 rfl (by decide) n48 e48 h48 (xst_lt (σ := σ) g48) d_K_derive_48 ?_
  refine b_astore_n X (lv' := [(0, .ref (xa σ 22)), (1, .ref (xa σ 26)), (2, .int x2), (3, .ref (xa σ (28 + 2 * n48)))]) d_K_derive_49 rfl (by decide) [1, 2, 3, 0] rfl ?_
  refine b_aload_n X d_K_derive_50 0 rfl rfl ?_
  refine b_dup X d_K_derive_51 rfl ?_
  refine b_get X fl_K_48 22 rfl (v := .int (xi σ 22 0)) rfl d_K_derive_52 ?_
  refine b_iconst X (v := 1) d_K_derive_55 (by decide) ?_
  refine b_isub X d_K_derive_56 ?_
  refine b_put X fl_K_48 pl_K_pending 22 rfl rfl rfl (Nat.le_of_ble_eq_true rfl) (uWC_22_pending G σ ((xi σ 22 0) - 1)) d_K_derive_57 ?_
  refine b_aload_n X d_K_derive_60 3 rfl rfl ?_
  refine b_getN X fn_51 (28 + 2 * n48) (pg_o G (wi σ 22 0 ((xi σ 22 0) - 1)) g48) (v := .int (xp (wi σ 22 0 ((xi σ 22 0) - 1)) (2 * n48) 0)) rfl d_K_derive_61 ?_
  refine b_dS X cf_G_isToken ci_G_isToken ml_K_54 (ct_G_isToken G (wi σ 22 0 ((xi σ 22 0) - 1)) (xp (wi σ 22 0 ((xi σ 22 0) - 1)) (2 * n48) 0)) (As := [.int (xp (wi σ 22 0 ((xi σ 22 0) - 1)) (2 * n48) 0)]) (rest := []) rfl (Nat.le_of_ble_eq_true rfl) ⟨Nat.le_of_ble_eq_true rfl, Nat.le_of_ble_eq_true rfl⟩ ⟨hc, hs⟩ rfl rfl d_K_derive_64 ?_
  refine b_if_eq X (tgt := 83) d_K_derive_67 (by decide) (fun _ => ?_) (fun h => absurd c67 h)
  refine b_aload_n X d_K_derive_83 0 rfl rfl ?_
  refine b_aload_n X d_K_derive_84 3 rfl rfl ?_
  refine b_getN X fn_51 (28 + 2 * n48) (pg_o G (wi σ 22 0 ((xi σ 22 0) - 1)) g48) (v := .int (xp (wi σ 22 0 ((xi σ 22 0) - 1)) (2 * n48) 0)) rfl d_K_derive_85 ?_
  refine b_dS X cf_G_ruleOf ci_G_ruleOf ml_K_60 (ct_G_ruleOf_ G (wi σ 22 0 ((xi σ 22 0) - 1)) (xp (wi σ 22 0 ((xi σ 22 0) - 1)) (2 * n48) 0)) (As := [.int (xp (wi σ 22 0 ((xi σ 22 0) - 1)) (2 * n48) 0)]) (rest := [.ref (xa σ 22)]) rfl (Nat.le_of_ble_eq_true rfl) ⟨Nat.le_of_ble_eq_true rfl, Nat.le_of_ble_eq_true rfl⟩ ⟨hc, hs⟩ rfl rfl d_K_derive_88 ?_
  refine b_aload_n X d_K_derive_91 3 rfl rfl ?_
  refine b_getN X fn_64 (28 + 2 * n48) (pg_o G (wi σ 22 0 ((xi σ 22 0) - 1)) g48) (v := .int (xp (wi σ 22 0 ((xi σ 22 0) - 1)) (2 * n48) 1)) rfl d_K_derive_92 ?_
  refine b_aload_n X d_K_derive_95 1 rfl rfl ?_
  refine b_callV X cf_K_replace ci_K_replace ml_K_67 t96 22 rfl rfl (As := [.int ((-1) - (xp (wi σ 22 0 ((xi σ 22 0) - 1)) (2 * n48) 0)), .int (xp (wi σ 22 0 ((xi σ 22 0) - 1)) (2 * n48) 1), .ref (xa σ 26)]) (rest := []) rfl (Nat.le_of_ble_eq_true rfl) ⟨Nat.le_of_ble_eq_true rfl, Nat.le_of_ble_eq_true rfl⟩ ⟨hc96, hs96⟩ rfl d_K_derive_96 (fun v' w' hp' => ?_)
  obtain ⟨rfl, f96, a96, rfl⟩ := hp'
  refine Lb.pick (lv' := [(0, .ref (xa σ 22)), (1, .ref (xa σ 26)), (2, .int x2)]) [0, 1, 2] rfl ?_
  refine Lb.eq (st' := [.int r96]) rfl rfl rfl ?_
  rw [← a96 22 (by decide)]
  rw [← a96 26 (by decide)]
  refine b_if_ne X (tgt := 104) d_K_derive_99 (by decide) (fun _ => ?_) (fun h => absurd h c99)
  refine b_iinc X (lv' := [(0, .ref (f96 22)), (1, .ref (f96 26)), (2, .int (x2 + 1))]) d_K_derive_104 2 rfl (v := (x2 + 1)) rfl (by decide) [1, 2, 0] rfl ?_
  refine b_goto X (tgt := 26) d_K_derive_107 (by decide) ?_
  exact k f96 a96
theorem sg_K_derive_26_fftfr {K : KX} {G : GG} {w0 : va_W} {cc ss D : Nat} {post : PostT} (X : Bd K G w0 "FirstTrees$Walk" c_K_derive 4 (some .boolean) (rmk rm_K_derive D)) (σ : St) (x2 : Int32)  (n48 : Nat) (r96 : Int32) (δ96 : Nat) (q96 : Sq)  (hc : cc ≤ 2 * D) (hs : ss ≤ 64 * D) (c30 : ¬ 2060 ≤ x2) (c37 : ¬ (xi σ 22 0) ≤ 0) (e48 : (xi σ 22 0) = nI n48) (h48 : n48 < 2061) (g48 : n48 < xn σ) (c67 : (b2i (0 ≤ (xp (wi σ 22 0 ((xi σ 22 0) - 1)) (2 * n48) 0))) = 0) (t96 : Ct y_K_replace c_K_replace 8 (some .boolean) (rmk rm_K_replace δ96) G [.ref (xa σ 22), .int ((-1) - (xp (wi σ 22 0 ((xi σ 22 0) - 1)) (2 * n48) 0)), .int (xp (wi σ 22 0 ((xi σ 22 0) - 1)) (2 * n48) 1), .ref (xa σ 26)] (WC G (wi σ 22 0 ((xi σ 22 0) - 1))) (PA G (xa σ) (some (.int r96)) q96)) (hc96 : cc + 2 * δ96 ≤ 2 * D) (hs96 : ss + 64 * δ96 ≤ 64 * D) (c99 : r96 = 0) (hp : ∀ f : Nat → Nat, (∀ k, k < 28 → f k = xa σ k) → post (some (.int 0)) (WC G (f, q96))) : Lb K G w0 (Qe K G w0 post (rmk rm_K_derive D)) 4 26 [(0, .ref (xa σ 22)), (1, .ref (xa σ 26)), (2, .int x2)] [] (WC G σ) cc ss := by
  refine b_iload_n X d_K_derive_26 2 rfl rfl ?_
  refine b_sipush X (v := 2060) d_K_derive_27 (by decide) ?_
  refine b_icmp_ge X (tgt := 110) d_K_derive_30 (by decide) (fun h => absurd h c30) (fun _ => ?_)
  refine b_aload_n X d_K_derive_33 0 rfl rfl ?_
  refine b_get X fl_K_48 22 rfl (v := .int (xi σ 22 0)) rfl d_K_derive_34 ?_
  refine b_if_le X (tgt := 110) d_K_derive_37 (by decide) (fun h => absurd h c37) (fun _ => ?_)
  refine b_aload_n X d_K_derive_40 0 rfl rfl ?_
  refine b_get X fl_K_13 22 rfl (v := .ref (xa σ 23)) rfl d_K_derive_41 ?_
  refine b_aload_n X d_K_derive_44 0 rfl rfl ?_
  refine b_get X fl_K_48 22 rfl (v := .int (xi σ 22 0)) rfl d_K_derive_45 ?_
  refine b_aald X 23 rfl (by decide) n48 e48 h48 (xst_lt (σ := σ) g48) d_K_derive_48 ?_
  refine b_astore_n X (lv' := [(0, .ref (xa σ 22)), (1, .ref (xa σ 26)), (2, .int x2), (3, .ref (xa σ (28 + 2 * n48)))]) d_K_derive_49 rfl (by decide) [1, 2, 3, 0] rfl ?_
  refine b_aload_n X d_K_derive_50 0 rfl rfl ?_
  refine b_dup X d_K_derive_51 rfl ?_
  refine b_get X fl_K_48 22 rfl (v := .int (xi σ 22 0)) rfl d_K_derive_52 ?_
  refine b_iconst X (v := 1) d_K_derive_55 (by decide) ?_
  refine b_isub X d_K_derive_56 ?_
  refine b_put X fl_K_48 pl_K_pending 22 rfl rfl rfl (Nat.le_of_ble_eq_true rfl) (uWC_22_pending G σ ((xi σ 22 0) - 1)) d_K_derive_57 ?_
  refine b_aload_n X d_K_derive_60 3 rfl rfl ?_
  refine b_getN X fn_51 (28 + 2 * n48) (pg_o G (wi σ 22 0 ((xi σ 22 0) - 1)) g48) (v := .int (xp (wi σ 22 0 ((xi σ 22 0) - 1)) (2 * n48) 0)) rfl d_K_derive_61 ?_
  refine b_dS X cf_G_isToken ci_G_isToken ml_K_54 (ct_G_isToken G (wi σ 22 0 ((xi σ 22 0) - 1)) (xp (wi σ 22 0 ((xi σ 22 0) - 1)) (2 * n48) 0)) (As := [.int (xp (wi σ 22 0 ((xi σ 22 0) - 1)) (2 * n48) 0)]) (rest := []) rfl (Nat.le_of_ble_eq_true rfl) ⟨Nat.le_of_ble_eq_true rfl, Nat.le_of_ble_eq_true rfl⟩ ⟨hc, hs⟩ rfl rfl d_K_derive_64 ?_
  refine b_if_eq X (tgt := 83) d_K_derive_67 (by decide) (fun _ => ?_) (fun h => absurd c67 h)
  refine b_aload_n X d_K_derive_83 0 rfl rfl ?_
  refine b_aload_n X d_K_derive_84 3 rfl rfl ?_
  refine b_getN X fn_51 (28 + 2 * n48) (pg_o G (wi σ 22 0 ((xi σ 22 0) - 1)) g48) (v := .int (xp (wi σ 22 0 ((xi σ 22 0) - 1)) (2 * n48) 0)) rfl d_K_derive_85 ?_
  refine b_dS X cf_G_ruleOf ci_G_ruleOf ml_K_60 (ct_G_ruleOf_ G (wi σ 22 0 ((xi σ 22 0) - 1)) (xp (wi σ 22 0 ((xi σ 22 0) - 1)) (2 * n48) 0)) (As := [.int (xp (wi σ 22 0 ((xi σ 22 0) - 1)) (2 * n48) 0)]) (rest := [.ref (xa σ 22)]) rfl (Nat.le_of_ble_eq_true rfl) ⟨Nat.le_of_ble_eq_true rfl, Nat.le_of_ble_eq_true rfl⟩ ⟨hc, hs⟩ rfl rfl d_K_derive_88 ?_
  refine b_aload_n X d_K_derive_91 3 rfl rfl ?_
  refine b_getN X fn_64 (28 + 2 * n48) (pg_o G (wi σ 22 0 ((xi σ 22 0) - 1)) g48) (v := .int (xp (wi σ 22 0 ((xi σ 22 0) - 1)) (2 * n48) 1)) rfl d_K_derive_92 ?_
  refine b_aload_n X d_K_derive_95 1 rfl rfl ?_
  refine b_callV X cf_K_replace ci_K_replace ml_K_67 t96 22 rfl rfl (As := [.int ((-1) - (xp (wi σ 22 0 ((xi σ 22 0) - 1)) (2 * n48) 0)), .int (xp (wi σ 22 0 ((xi σ 22 0) - 1)) (2 * n48) 1), .ref (xa σ 26)]) (rest := []) rfl (Nat.le_of_ble_eq_true rfl) ⟨Nat.le_of_ble_eq_true rfl, Nat.le_of_ble_eq_true rfl⟩ ⟨hc96, hs96⟩ rfl d_K_derive_96 (fun v' w' hp' => ?_)
  obtain ⟨rfl, f96, a96, rfl⟩ := hp'
  refine Lb.pick (lv' := [(0, .ref (xa σ 22)), (1, .ref (xa σ 26)), (2, .int x2)]) [0, 1, 2] rfl ?_
  refine Lb.eq (st' := [.int r96]) rfl rfl rfl ?_
  rw [← a96 22 (by decide)]
  rw [← a96 26 (by decide)]
  refine b_if_ne X (tgt := 104) d_K_derive_99 (by decide) (fun h => absurd c99 h) (fun _ => ?_)
  refine b_iconst X (v := 0) d_K_derive_102 (by decide) ?_
  refine Lb.widen hc96 hs96 ?_
  exact b_zret X rfl d_K_derive_103 (hp f96 a96)
theorem sg_K_derive_26_fff26 {K : KX} {G : GG} {w0 : va_W} {cc ss D : Nat} {Q : State → Prop} (X : Bd K G w0 "FirstTrees$Walk" c_K_derive 4 (some .boolean) (rmk rm_K_derive D)) (σ : St) (x2 : Int32)  (n48 : Nat)  (hc : cc ≤ 2 * D) (hs : ss ≤ 64 * D) (c30 : ¬ 2060 ≤ x2) (c37 : ¬ (xi σ 22 0) ≤ 0) (e48 : (xi σ 22 0) = nI n48) (h48 : n48 < 2061) (g48 : n48 < xn σ) (c67 : ¬ (b2i (0 ≤ (xp (wi σ 22 0 ((xi σ 22 0) - 1)) (2 * n48) 0))) = 0) (k : Lb K G w0 Q 4 26 [(0, .ref (xa σ 22)), (1, .ref (xa σ 26)), (2, .int (x2 + 1))] [] (WC G (wi (wi σ 22 0 ((xi σ 22 0) - 1)) 22 1 ((xi σ 22 1) + 1))) cc ss) : Lb K G w0 Q 4 26 [(0, .ref (xa σ 22)), (1, .ref (xa σ 26)), (2, .int x2)] [] (WC G σ) cc ss := by
  refine b_iload_n X d_K_derive_26 2 rfl rfl ?_
  refine b_sipush X (v := 2060) d_K_derive_27 (by decide) ?_
  refine b_icmp_ge X (tgt := 110) d_K_derive_30 (by decide) (fun h => absurd h c30) (fun _ => ?_)
  refine b_aload_n X d_K_derive_33 0 rfl rfl ?_
  refine b_get X fl_K_48 22 rfl (v := .int (xi σ 22 0)) rfl d_K_derive_34 ?_
  refine b_if_le X (tgt := 110) d_K_derive_37 (by decide) (fun h => absurd h c37) (fun _ => ?_)
  refine b_aload_n X d_K_derive_40 0 rfl rfl ?_
  refine b_get X fl_K_13 22 rfl (v := .ref (xa σ 23)) rfl d_K_derive_41 ?_
  refine b_aload_n X d_K_derive_44 0 rfl rfl ?_
  refine b_get X fl_K_48 22 rfl (v := .int (xi σ 22 0)) rfl d_K_derive_45 ?_
  refine b_aald X 23 rfl (by decide) n48 e48 h48 (xst_lt (σ := σ) g48) d_K_derive_48 ?_
  refine b_astore_n X (lv' := [(0, .ref (xa σ 22)), (1, .ref (xa σ 26)), (2, .int x2), (3, .ref (xa σ (28 + 2 * n48)))]) d_K_derive_49 rfl (by decide) [1, 2, 3, 0] rfl ?_
  refine b_aload_n X d_K_derive_50 0 rfl rfl ?_
  refine b_dup X d_K_derive_51 rfl ?_
  refine b_get X fl_K_48 22 rfl (v := .int (xi σ 22 0)) rfl d_K_derive_52 ?_
  refine b_iconst X (v := 1) d_K_derive_55 (by decide) ?_
  refine b_isub X d_K_derive_56 ?_
  refine b_put X fl_K_48 pl_K_pending 22 rfl rfl rfl (Nat.le_of_ble_eq_true rfl) (uWC_22_pending G σ ((xi σ 22 0) - 1)) d_K_derive_57 ?_
  refine b_aload_n X d_K_derive_60 3 rfl rfl ?_
  refine b_getN X fn_51 (28 + 2 * n48) (pg_o G (wi σ 22 0 ((xi σ 22 0) - 1)) g48) (v := .int (xp (wi σ 22 0 ((xi σ 22 0) - 1)) (2 * n48) 0)) rfl d_K_derive_61 ?_
  refine b_dS X cf_G_isToken ci_G_isToken ml_K_54 (ct_G_isToken G (wi σ 22 0 ((xi σ 22 0) - 1)) (xp (wi σ 22 0 ((xi σ 22 0) - 1)) (2 * n48) 0)) (As := [.int (xp (wi σ 22 0 ((xi σ 22 0) - 1)) (2 * n48) 0)]) (rest := []) rfl (Nat.le_of_ble_eq_true rfl) ⟨Nat.le_of_ble_eq_true rfl, Nat.le_of_ble_eq_true rfl⟩ ⟨hc, hs⟩ rfl rfl d_K_derive_64 ?_
  refine b_if_eq X (tgt := 83) d_K_derive_67 (by decide) (fun h => absurd h c67) (fun _ => ?_)
  refine b_aload_n X d_K_derive_70 0 rfl rfl ?_
  refine b_dup X d_K_derive_71 rfl ?_
  refine b_get X fl_K_34 22 rfl (v := .int (xi σ 22 1)) rfl d_K_derive_72 ?_
  refine b_iconst X (v := 1) d_K_derive_75 (by decide) ?_
  refine b_iadd X d_K_derive_76 ?_
  refine b_put X fl_K_34 pl_K_place 22 rfl rfl rfl (Nat.le_of_ble_eq_true rfl) (uWC_22_place G (wi σ 22 0 ((xi σ 22 0) - 1)) ((xi σ 22 1) + 1)) d_K_derive_77 ?_
  refine b_goto X (tgt := 104) d_K_derive_80 (by decide) ?_
  refine b_iinc X (lv' := [(0, .ref (xa σ 22)), (1, .ref (xa σ 26)), (2, .int (x2 + 1)), (3, .ref (xa σ (28 + 2 * n48)))]) d_K_derive_104 2 rfl (v := (x2 + 1)) rfl (by decide) [1, 2, 0, 3] rfl ?_
  refine b_goto X (tgt := 26) d_K_derive_107 (by decide) ?_
  refine Lb.pick (lv' := [(0, .ref (xa σ 22)), (1, .ref (xa σ 26)), (2, .int (x2 + 1))]) [0, 1, 2] rfl ?_
  exact k
