/-! segments, by program (wip/gen) -/
theorem sg_M_rowIsNothing_0_6 {K : KX} {G : GG} {w0 : va_W} {Q : State → Prop} (X : Bd K G w0 "FirstTreesModel" c_M_rowIsNothing 7 (some .boolean) rm_M_rowIsNothing) (σ : St) (x1 : Int32) (x2 : Int32) (x3 : Int32)   (k : Lb K G w0 Q 7 6 [(0, .ref (xa σ 0)), (1, .int x1), (2, .int x2), (3, .int x3), (4, .int 1), (5, .int x3)] [] (WM G σ) 0 0) : Lb K G w0 Q 7 0 [(0, .ref (xa σ 0)), (1, .int x1), (2, .int x2), (3, .int x3)] [] (WM G σ) 0 0 := by
  refine b_iconst X (v := 1) d_M_rowIsNothing_0 (by decide) ?_
  refine b_istore X (lv' := [(0, .ref (xa σ 0)), (1, .int x1), (2, .int x2), (3, .int x3), (4, .int 1)]) d_M_rowIsNothing_1 (by decide) [1, 2, 3, 4, 0] rfl ?_
  refine b_iload_n X d_M_rowIsNothing_3 3 rfl rfl ?_
  refine b_istore X (lv' := [(0, .ref (xa σ 0)), (1, .int x1), (2, .int x2), (3, .int x3), (4, .int 1), (5, .int x3)]) d_M_rowIsNothing_4 (by decide) [1, 2, 3, 4, 5, 0] rfl ?_
  exact k
theorem sg_M_rowIsNothing_6_tr {K : KX} {G : GG} {w0 : va_W} {post : PostT} (X : Bd K G w0 "FirstTreesModel" c_M_rowIsNothing 7 (some .boolean) rm_M_rowIsNothing) (σ : St) (x1 : Int32) (x2 : Int32) (x3 : Int32) (x4 : Int32) (x5 : Int32) (n11 : Nat) (e11 : ((8 * x1) + x2) = nI n11) (h11 : n11 < 128) (c14 : (xi σ 2 n11) ≤ x5) (z67 : narrow .boolean (.int x4) = .int x4) (hp : post (some (.int x4)) (WM G σ)) : Lb K G w0 (Qe K G w0 post rm_M_rowIsNothing) 7 6 [(0, .ref (xa σ 0)), (1, .int x1), (2, .int x2), (3, .int x3), (4, .int x4), (5, .int x5)] [] (WM G σ) 0 0 := by
  refine b_iload X d_M_rowIsNothing_6 5 rfl ?_
  refine b_aload_n X d_M_rowIsNothing_8 0 rfl rfl ?_
  refine b_iload_n X d_M_rowIsNothing_9 1 rfl rfl ?_
  refine b_iload_n X d_M_rowIsNothing_10 2 rfl rfl ?_
  refine b_dV X cf_M_sizeOf ci_M_sizeOf ml_M_77 (ct_M_sizeOf_ G σ x1 x2 n11 e11 h11) 0 rfl rfl (As := [.int x1, .int x2]) (rest := [.int x5]) rfl (Nat.le_of_ble_eq_true rfl) ⟨Nat.le_of_ble_eq_true rfl, Nat.le_of_ble_eq_true rfl⟩ ⟨Nat.le_of_ble_eq_true rfl, Nat.le_of_ble_eq_true rfl⟩ rfl rfl d_M_rowIsNothing_11 ?_
  refine b_icmp_ge X (tgt := 65) d_M_rowIsNothing_14 (by decide) (fun _ => ?_) (fun h => absurd c14 h)
  refine b_iload X d_M_rowIsNothing_65 4 rfl ?_
  exact b_zret X z67 d_M_rowIsNothing_67 hp
theorem sg_M_rowIsNothing_6_ft6 {K : KX} {G : GG} {w0 : va_W} {Q : State → Prop} (X : Bd K G w0 "FirstTreesModel" c_M_rowIsNothing 7 (some .boolean) rm_M_rowIsNothing) (σ : St) (x1 : Int32) (x2 : Int32) (x3 : Int32) (x4 : Int32) (x5 : Int32) (n11 : Nat) (n22 : Nat) (e11 : ((8 * x1) + x2) = nI n11) (h11 : n11 < 128) (c14 : ¬ (xi σ 2 n11) ≤ x5) (e22 : (((64 * x1) + (8 * x2)) + x5) = nI n22) (h22 : n22 < 1024) (c29 : x4 = 0) (k : Lb K G w0 Q 7 6 [(0, .ref (xa σ 0)), (1, .int x1), (2, .int x2), (3, .int x3), (4, .int 0), (5, .int (x5 + 1))] [] (WM G σ) 0 0) : Lb K G w0 Q 7 6 [(0, .ref (xa σ 0)), (1, .int x1), (2, .int x2), (3, .int x3), (4, .int x4), (5, .int x5)] [] (WM G σ) 0 0 := by
  refine b_iload X d_M_rowIsNothing_6 5 rfl ?_
  refine b_aload_n X d_M_rowIsNothing_8 0 rfl rfl ?_
  refine b_iload_n X d_M_rowIsNothing_9 1 rfl rfl ?_
  refine b_iload_n X d_M_rowIsNothing_10 2 rfl rfl ?_
  refine b_dV X cf_M_sizeOf ci_M_sizeOf ml_M_77 (ct_M_sizeOf_ G σ x1 x2 n11 e11 h11) 0 rfl rfl (As := [.int x1, .int x2]) (rest := [.int x5]) rfl (Nat.le_of_ble_eq_true rfl) ⟨Nat.le_of_ble_eq_true rfl, Nat.le_of_ble_eq_true rfl⟩ ⟨Nat.le_of_ble_eq_true rfl, Nat.le_of_ble_eq_true rfl⟩ rfl rfl d_M_rowIsNothing_11 ?_
  refine b_icmp_ge X (tgt := 65) d_M_rowIsNothing_14 (by decide) (fun h => absurd h c14) (fun _ => ?_)
  refine b_aload_n X d_M_rowIsNothing_17 0 rfl rfl ?_
  refine b_iload_n X d_M_rowIsNothing_18 1 rfl rfl ?_
  refine b_iload_n X d_M_rowIsNothing_19 2 rfl rfl ?_
  refine b_iload X d_M_rowIsNothing_20 5 rfl ?_
  refine b_dV X cf_M_symbolAt ci_M_symbolAt ml_M_81 (ct_M_symbolAt_ G σ x1 x2 x5 n22 e22 h22) 0 rfl rfl (As := [.int x1, .int x2, .int x5]) (rest := []) rfl (Nat.le_of_ble_eq_true rfl) ⟨Nat.le_of_ble_eq_true rfl, Nat.le_of_ble_eq_true rfl⟩ ⟨Nat.le_of_ble_eq_true rfl, Nat.le_of_ble_eq_true rfl⟩ rfl rfl d_M_rowIsNothing_22 ?_
  refine b_istore X (lv' := [(0, .ref (xa σ 0)), (1, .int x1), (2, .int x2), (3, .int x3), (4, .int x4), (5, .int x5), (6, .int (xi σ 3 n22))]) d_M_rowIsNothing_25 (by decide) [1, 2, 3, 4, 5, 6, 0] rfl ?_
  refine b_iload X d_M_rowIsNothing_27 4 rfl ?_
  refine b_if_eq X (tgt := 56) d_M_rowIsNothing_29 (by decide) (fun _ => ?_) (fun h => absurd c29 h)
  refine b_iconst X (v := 0) d_M_rowIsNothing_56 (by decide) ?_
  refine b_istore X (lv' := [(0, .ref (xa σ 0)), (1, .int x1), (2, .int x2), (3, .int x3), (4, .int 0), (5, .int x5), (6, .int (xi σ 3 n22))]) d_M_rowIsNothing_57 (by decide) [1, 2, 3, 4, 0, 5, 6] rfl ?_
  refine b_iinc X (lv' := [(0, .ref (xa σ 0)), (1, .int x1), (2, .int x2), (3, .int x3), (4, .int 0), (5, .int (x5 + 1)), (6, .int (xi σ 3 n22))]) d_M_rowIsNothing_59 5 rfl (v := (x5 + 1)) rfl (by decide) [1, 2, 3, 4, 5, 0, 6] rfl ?_
  refine b_goto X (tgt := 6) d_M_rowIsNothing_62 (by decide) ?_
  refine Lb.pick (lv' := [(0, .ref (xa σ 0)), (1, .int x1), (2, .int x2), (3, .int x3), (4, .int 0), (5, .int (x5 + 1))]) [0, 1, 2, 3, 4, 5] rfl ?_
  exact k
theorem sg_M_rowIsNothing_6_fft6 {K : KX} {G : GG} {w0 : va_W} {Q : State → Prop} (X : Bd K G w0 "FirstTreesModel" c_M_rowIsNothing 7 (some .boolean) rm_M_rowIsNothing) (σ : St) (x1 : Int32) (x2 : Int32) (x3 : Int32) (x4 : Int32) (x5 : Int32) (n11 : Nat) (n22 : Nat) (e11 : ((8 * x1) + x2) = nI n11) (h11 : n11 < 128) (c14 : ¬ (xi σ 2 n11) ≤ x5) (e22 : (((64 * x1) + (8 * x2)) + x5) = nI n22) (h22 : n22 < 1024) (c29 : ¬ x4 = 0) (c37 : (b2i ((xi σ 3 n22) < 0)) = 0) (k : Lb K G w0 Q 7 6 [(0, .ref (xa σ 0)), (1, .int x1), (2, .int x2), (3, .int x3), (4, .int 0), (5, .int (x5 + 1))] [] (WM G σ) 0 0) : Lb K G w0 Q 7 6 [(0, .ref (xa σ 0)), (1, .int x1), (2, .int x2), (3, .int x3), (4, .int x4), (5, .int x5)] [] (WM G σ) 0 0 := by
  refine b_iload X d_M_rowIsNothing_6 5 rfl ?_
  refine b_aload_n X d_M_rowIsNothing_8 0 rfl rfl ?_
  refine b_iload_n X d_M_rowIsNothing_9 1 rfl rfl ?_
  refine b_iload_n X d_M_rowIsNothing_10 2 rfl rfl ?_
  refine b_dV X cf_M_sizeOf ci_M_sizeOf ml_M_77 (ct_M_sizeOf_ G σ x1 x2 n11 e11 h11) 0 rfl rfl (As := [.int x1, .int x2]) (rest := [.int x5]) rfl (Nat.le_of_ble_eq_true rfl) ⟨Nat.le_of_ble_eq_true rfl, Nat.le_of_ble_eq_true rfl⟩ ⟨Nat.le_of_ble_eq_true rfl, Nat.le_of_ble_eq_true rfl⟩ rfl rfl d_M_rowIsNothing_11 ?_
  refine b_icmp_ge X (tgt := 65) d_M_rowIsNothing_14 (by decide) (fun h => absurd h c14) (fun _ => ?_)
  refine b_aload_n X d_M_rowIsNothing_17 0 rfl rfl ?_
  refine b_iload_n X d_M_rowIsNothing_18 1 rfl rfl ?_
  refine b_iload_n X d_M_rowIsNothing_19 2 rfl rfl ?_
  refine b_iload X d_M_rowIsNothing_20 5 rfl ?_
  refine b_dV X cf_M_symbolAt ci_M_symbolAt ml_M_81 (ct_M_symbolAt_ G σ x1 x2 x5 n22 e22 h22) 0 rfl rfl (As := [.int x1, .int x2, .int x5]) (rest := []) rfl (Nat.le_of_ble_eq_true rfl) ⟨Nat.le_of_ble_eq_true rfl, Nat.le_of_ble_eq_true rfl⟩ ⟨Nat.le_of_ble_eq_true rfl, Nat.le_of_ble_eq_true rfl⟩ rfl rfl d_M_rowIsNothing_22 ?_
  refine b_istore X (lv' := [(0, .ref (xa σ 0)), (1, .int x1), (2, .int x2), (3, .int x3), (4, .int x4), (5, .int x5), (6, .int (xi σ 3 n22))]) d_M_rowIsNothing_25 (by decide) [1, 2, 3, 4, 5, 6, 0] rfl ?_
  refine b_iload X d_M_rowIsNothing_27 4 rfl ?_
  refine b_if_eq X (tgt := 56) d_M_rowIsNothing_29 (by decide) (fun h => absurd h c29) (fun _ => ?_)
  refine b_iload X d_M_rowIsNothing_32 6 rfl ?_
  refine b_dS X cf_M_isRule ci_M_isRule ml_M_85 (ct_M_isRule G σ (xi σ 3 n22)) (As := [.int (xi σ 3 n22)]) (rest := []) rfl (Nat.le_of_ble_eq_true rfl) ⟨Nat.le_of_ble_eq_true rfl, Nat.le_of_ble_eq_true rfl⟩ ⟨Nat.le_of_ble_eq_true rfl, Nat.le_of_ble_eq_true rfl⟩ rfl rfl d_M_rowIsNothing_34 ?_
  refine b_if_eq X (tgt := 56) d_M_rowIsNothing_37 (by decide) (fun _ => ?_) (fun h => absurd c37 h)
  refine b_iconst X (v := 0) d_M_rowIsNothing_56 (by decide) ?_
  refine b_istore X (lv' := [(0, .ref (xa σ 0)), (1, .int x1), (2, .int x2), (3, .int x3), (4, .int 0), (5, .int x5), (6, .int (xi σ 3 n22))]) d_M_rowIsNothing_57 (by decide) [1, 2, 3, 4, 0, 5, 6] rfl ?_
  refine b_iinc X (lv' := [(0, .ref (xa σ 0)), (1, .int x1), (2, .int x2), (3, .int x3), (4, .int 0), (5, .int (x5 + 1)), (6, .int (xi σ 3 n22))]) d_M_rowIsNothing_59 5 rfl (v := (x5 + 1)) rfl (by decide) [1, 2, 3, 4, 5, 0, 6] rfl ?_
  refine b_goto X (tgt := 6) d_M_rowIsNothing_62 (by decide) ?_
  refine Lb.pick (lv' := [(0, .ref (xa σ 0)), (1, .int x1), (2, .int x2), (3, .int x3), (4, .int 0), (5, .int (x5 + 1))]) [0, 1, 2, 3, 4, 5] rfl ?_
  exact k
theorem sg_M_rowIsNothing_6_ffft6 {K : KX} {G : GG} {w0 : va_W} {Q : State → Prop} (X : Bd K G w0 "FirstTreesModel" c_M_rowIsNothing 7 (some .boolean) rm_M_rowIsNothing) (σ : St) (x1 : Int32) (x2 : Int32) (x3 : Int32) (x4 : Int32) (x5 : Int32) (n11 : Nat) (n22 : Nat) (n48 : Nat) (e11 : ((8 * x1) + x2) = nI n11) (h11 : n11 < 128) (c14 : ¬ (xi σ 2 n11) ≤ x5) (e22 : (((64 * x1) + (8 * x2)) + x5) = nI n22) (h22 : n22 < 1024) (c29 : ¬ x4 = 0) (c37 : ¬ (b2i ((xi σ 3 n22) < 0)) = 0) (e48 : ((-1) - (xi σ 3 n22)) = nI n48) (h48 : n48 < 16) (c49 : (xi σ 4 n48) = 0) (k : Lb K G w0 Q 7 6 [(0, .ref (xa σ 0)), (1, .int x1), (2, .int x2), (3, .int x3), (4, .int 0), (5, .int (x5 + 1))] [] (WM G σ) 0 0) : Lb K G w0 Q 7 6 [(0, .ref (xa σ 0)), (1, .int x1), (2, .int x2), (3, .int x3), (4, .int x4), (5, .int x5)] [] (WM G σ) 0 0 := by
  refine b_iload X d_M_rowIsNothing_6 5 rfl ?_
  refine b_aload_n X d_M_rowIsNothing_8 0 rfl rfl ?_
  refine b_iload_n X d_M_rowIsNothing_9 1 rfl rfl ?_
  refine b_iload_n X d_M_rowIsNothing_10 2 rfl rfl ?_
  refine b_dV X cf_M_sizeOf ci_M_sizeOf ml_M_77 (ct_M_sizeOf_ G σ x1 x2 n11 e11 h11) 0 rfl rfl (As := [.int x1, .int x2]) (rest := [.int x5]) rfl (Nat.le_of_ble_eq_true rfl) ⟨Nat.le_of_ble_eq_true rfl, Nat.le_of_ble_eq_true rfl⟩ ⟨Nat.le_of_ble_eq_true rfl, Nat.le_of_ble_eq_true rfl⟩ rfl rfl d_M_rowIsNothing_11 ?_
  refine b_icmp_ge X (tgt := 65) d_M_rowIsNothing_14 (by decide) (fun h => absurd h c14) (fun _ => ?_)
  refine b_aload_n X d_M_rowIsNothing_17 0 rfl rfl ?_
  refine b_iload_n X d_M_rowIsNothing_18 1 rfl rfl ?_
  refine b_iload_n X d_M_rowIsNothing_19 2 rfl rfl ?_
  refine b_iload X d_M_rowIsNothing_20 5 rfl ?_
  refine b_dV X cf_M_symbolAt ci_M_symbolAt ml_M_81 (ct_M_symbolAt_ G σ x1 x2 x5 n22 e22 h22) 0 rfl rfl (As := [.int x1, .int x2, .int x5]) (rest := []) rfl (Nat.le_of_ble_eq_true rfl) ⟨Nat.le_of_ble_eq_true rfl, Nat.le_of_ble_eq_true rfl⟩ ⟨Nat.le_of_ble_eq_true rfl, Nat.le_of_ble_eq_true rfl⟩ rfl rfl d_M_rowIsNothing_22 ?_
  refine b_istore X (lv' := [(0, .ref (xa σ 0)), (1, .int x1), (2, .int x2), (3, .int x3), (4, .int x4), (5, .int x5), (6, .int (xi σ 3 n22))]) d_M_rowIsNothing_25 (by decide) [1, 2, 3, 4, 5, 6, 0] rfl ?_
  refine b_iload X d_M_rowIsNothing_27 4 rfl ?_
  refine b_if_eq X (tgt := 56) d_M_rowIsNothing_29 (by decide) (fun h => absurd h c29) (fun _ => ?_)
  refine b_iload X d_M_rowIsNothing_32 6 rfl ?_
  refine b_dS X cf_M_isRule ci_M_isRule ml_M_85 (ct_M_isRule G σ (xi σ 3 n22)) (As := [.int (xi σ 3 n22)]) (rest := []) rfl (Nat.le_of_ble_eq_true rfl) ⟨Nat.le_of_ble_eq_true rfl, Nat.le_of_ble_eq_true rfl⟩ ⟨Nat.le_of_ble_eq_true rfl, Nat.le_of_ble_eq_true rfl⟩ rfl rfl d_M_rowIsNothing_34 ?_
  refine b_if_eq X (tgt := 56) d_M_rowIsNothing_37 (by decide) (fun h => absurd h c37) (fun _ => ?_)
  refine b_aload_n X d_M_rowIsNothing_40 0 rfl rfl ?_
  refine b_get X fl_M_19 0 rfl (v := .ref (xa σ 4)) rfl d_M_rowIsNothing_41 ?_
  refine b_iconst X (v := (-1)) d_M_rowIsNothing_44 (by decide) ?_
  refine b_iload X d_M_rowIsNothing_45 6 rfl ?_
  refine b_isub X d_M_rowIsNothing_47 ?_
  refine b_zald X 4 rfl (by decide) n48 e48 h48 d_M_rowIsNothing_48 ?_
  refine b_if_eq X (tgt := 56) d_M_rowIsNothing_49 (by decide) (fun _ => ?_) (fun h => absurd c49 h)
  refine b_iconst X (v := 0) d_M_rowIsNothing_56 (by decide) ?_
  refine b_istore X (lv' := [(0, .ref (xa σ 0)), (1, .int x1), (2, .int x2), (3, .int x3), (4, .int 0), (5, .int x5), (6, .int (xi σ 3 n22))]) d_M_rowIsNothing_57 (by decide) [1, 2, 3, 4, 0, 5, 6] rfl ?_
  refine b_iinc X (lv' := [(0, .ref (xa σ 0)), (1, .int x1), (2, .int x2), (3, .int x3), (4, .int 0), (5, .int (x5 + 1)), (6, .int (xi σ 3 n22))]) d_M_rowIsNothing_59 5 rfl (v := (x5 + 1)) rfl (by decide) [1, 2, 3, 4, 5, 0, 6] rfl ?_
  refine b_goto X (tgt := 6) d_M_rowIsNothing_62 (by decide) ?_
  refine Lb.pick (lv' := [(0, .ref (xa σ 0)), (1, .int x1), (2, .int x2), (3, .int x3), (4, .int 0), (5, .int (x5 + 1))]) [0, 1, 2, 3, 4, 5] rfl ?_
  exact k
theorem sg_M_rowIsNothing_6_ffff6 {K : KX} {G : GG} {w0 : va_W} {Q : State → Prop} (X : Bd K G w0 "FirstTreesModel" c_M_rowIsNothing 7 (some .boolean) rm_M_rowIsNothing) (σ : St) (x1 : Int32) (x2 : Int32) (x3 : Int32) (x4 : Int32) (x5 : Int32) (n11 : Nat) (n22 : Nat) (n48 : Nat) (e11 : ((8 * x1) + x2) = nI n11) (h11 : n11 < 128) (c14 : ¬ (xi σ 2 n11) ≤ x5) (e22 : (((64 * x1) + (8 * x2)) + x5) = nI n22) (h22 : n22 < 1024) (c29 : ¬ x4 = 0) (c37 : ¬ (b2i ((xi σ 3 n22) < 0)) = 0) (e48 : ((-1) - (xi σ 3 n22)) = nI n48) (h48 : n48 < 16) (c49 : ¬ (xi σ 4 n48) = 0) (k : Lb K G w0 Q 7 6 [(0, .ref (xa σ 0)), (1, .int x1), (2, .int x2), (3, .int x3), (4, .int 1), (5, .int (x5 + 1))] [] (WM G σ) 0 0) : Lb K G w0 Q 7 6 [(0, .ref (xa σ 0)), (1, .int x1), (2, .int x2), (3, .int x3), (4, .int x4), (5, .int x5)] [] (WM G σ) 0 0 := by
  refine b_iload X d_M_rowIsNothing_6 5 rfl ?_
  refine b_aload_n X d_M_rowIsNothing_8 0 rfl rfl ?_
  refine b_iload_n X d_M_rowIsNothing_9 1 rfl rfl ?_
  refine b_iload_n X d_M_rowIsNothing_10 2 rfl rfl ?_
  refine b_dV X cf_M_sizeOf ci_M_sizeOf ml_M_77 (ct_M_sizeOf_ G σ x1 x2 n11 e11 h11) 0 rfl rfl (As := [.int x1, .int x2]) (rest := [.int x5]) rfl (Nat.le_of_ble_eq_true rfl) ⟨Nat.le_of_ble_eq_true rfl, Nat.le_of_ble_eq_true rfl⟩ ⟨Nat.le_of_ble_eq_true rfl, Nat.le_of_ble_eq_true rfl⟩ rfl rfl d_M_rowIsNothing_11 ?_
  refine b_icmp_ge X (tgt := 65) d_M_rowIsNothing_14 (by decide) (fun h => absurd h c14) (fun _ => ?_)
  refine b_aload_n X d_M_rowIsNothing_17 0 rfl rfl ?_
  refine b_iload_n X d_M_rowIsNothing_18 1 rfl rfl ?_
  refine b_iload_n X d_M_rowIsNothing_19 2 rfl rfl ?_
  refine b_iload X d_M_rowIsNothing_20 5 rfl ?_
  refine b_dV X cf_M_symbolAt ci_M_symbolAt ml_M_81 (ct_M_symbolAt_ G σ x1 x2 x5 n22 e22 h22) 0 rfl rfl (As := [.int x1, .int x2, .int x5]) (rest := []) rfl (Nat.le_of_ble_eq_true rfl) ⟨Nat.le_of_ble_eq_true rfl, Nat.le_of_ble_eq_true rfl⟩ ⟨Nat.le_of_ble_eq_true rfl, Nat.le_of_ble_eq_true rfl⟩ rfl rfl d_M_rowIsNothing_22 ?_
  refine b_istore X (lv' := [(0, .ref (xa σ 0)), (1, .int x1), (2, .int x2), (3, .int x3), (4, .int x4), (5, .int x5), (6, .int (xi σ 3 n22))]) d_M_rowIsNothing_25 (by decide) [1, 2, 3, 4, 5, 6, 0] rfl ?_
  refine b_iload X d_M_rowIsNothing_27 4 rfl ?_
  refine b_if_eq X (tgt := 56) d_M_rowIsNothing_29 (by decide) (fun h => absurd h c29) (fun _ => ?_)
  refine b_iload X d_M_rowIsNothing_32 6 rfl ?_
  refine b_dS X cf_M_isRule ci_M_isRule ml_M_85 (ct_M_isRule G σ (xi σ 3 n22)) (As := [.int (xi σ 3 n22)]) (rest := []) rfl (Nat.le_of_ble_eq_true rfl) ⟨Nat.le_of_ble_eq_true rfl, Nat.le_of_ble_eq_true rfl⟩ ⟨Nat.le_of_ble_eq_true rfl, Nat.le_of_ble_eq_true rfl⟩ rfl rfl d_M_rowIsNothing_34 ?_
  refine b_if_eq X (tgt := 56) d_M_rowIsNothing_37 (by decide) (fun h => absurd h c37) (fun _ => ?_)
  refine b_aload_n X d_M_rowIsNothing_40 0 rfl rfl ?_
  refine b_get X fl_M_19 0 rfl (v := .ref (xa σ 4)) rfl d_M_rowIsNothing_41 ?_
  refine b_iconst X (v := (-1)) d_M_rowIsNothing_44 (by decide) ?_
  refine b_iload X d_M_rowIsNothing_45 6 rfl ?_
  refine b_isub X d_M_rowIsNothing_47 ?_
  refine b_zald X 4 rfl (by decide) n48 e48 h48 d_M_rowIsNothing_48 ?_
  refine b_if_eq X (tgt := 56) d_M_rowIsNothing_49 (by decide) (fun h => absurd h c49) (fun _ => ?_)
  refine b_iconst X (v := 1) d_M_rowIsNothing_52 (by decide) ?_
  refine b_goto X (tgt := 57) d_M_rowIsNothing_53 (by decide) ?_
  refine b_istore X (lv' := [(0, .ref (xa σ 0)), (1, .int x1), (2, .int x2), (3, .int x3), (4, .int 1), (5, .int x5), (6, .int (xi σ 3 n22))]) d_M_rowIsNothing_57 (by decide) [1, 2, 3, 4, 0, 5, 6] rfl ?_
  refine b_iinc X (lv' := [(0, .ref (xa σ 0)), (1, .int x1), (2, .int x2), (3, .int x3), (4, .int 1), (5, .int (x5 + 1)), (6, .int (xi σ 3 n22))]) d_M_rowIsNothing_59 5 rfl (v := (x5 + 1)) rfl (by decide) [1, 2, 3, 4, 5, 0, 6] rfl ?_
  refine b_goto X (tgt := 6) d_M_rowIsNothing_62 (by decide) ?_
  refine Lb.pick (lv' := [(0, .ref (xa σ 0)), (1, .int x1), (2, .int x2), (3, .int x3), (4, .int 1), (5, .int (x5 + 1))]) [0, 1, 2, 3, 4, 5] rfl ?_
  exact k
theorem sg_M_findNothing_0_2 {K : KX} {G : GG} {w0 : va_W} {Q : State → Prop} (X : Bd K G w0 "FirstTreesModel" c_M_findNothing 4 none rm_M_findNothing) (σ : St)    (k : Lb K G w0 Q 4 2 [(0, .ref (xa σ 0)), (1, .int 0)] [] (WM G σ) 0 0) : Lb K G w0 Q 4 0 [(0, .ref (xa σ 0))] [] (WM G σ) 0 0 := by
  refine b_iconst X (v := 0) d_M_findNothing_0 (by decide) ?_
  refine b_istore_n X (lv' := [(0, .ref (xa σ 0)), (1, .int 0)]) d_M_findNothing_1 rfl (by decide) [1, 0] rfl ?_
  exact k
theorem sg_M_findNothing_2_t23 {K : KX} {G : GG} {w0 : va_W} {Q : State → Prop} (X : Bd K G w0 "FirstTreesModel" c_M_findNothing 4 none rm_M_findNothing) (σ : St) (x1 : Int32)  (c5 : 16 ≤ x1) (k : Lb K G w0 Q 4 23 [(0, .ref (xa σ 0)), (1, .int 0)] [] (WM G σ) 0 0) : Lb K G w0 Q 4 2 [(0, .ref (xa σ 0)), (1, .int x1)] [] (WM G σ) 0 0 := by
  refine b_iload_n X d_M_findNothing_2 1 rfl rfl ?_
  refine b_bipush X (v := 16) d_M_findNothing_3 (by decide) ?_
  refine b_icmp_ge X (tgt := 21) d_M_findNothing_5 (by decide) (fun _ => ?_) (fun h => absurd c5 h)
  refine b_iconst X (v := 0) d_M_findNothing_21 (by decide) ?_
  refine b_istore_n X (lv' := [(0, .ref (xa σ 0)), (1, .int 0)]) d_M_findNothing_22 rfl (by decide) [1, 0] rfl ?_
  exact k
theorem sg_M_findNothing_2_f2 {K : KX} {G : GG} {w0 : va_W} {Q : State → Prop} (X : Bd K G w0 "FirstTreesModel" c_M_findNothing 4 none rm_M_findNothing) (σ : St) (x1 : Int32) (n14 : Nat) (c5 : ¬ 16 ≤ x1) (e14 : x1 = nI n14) (h14 : n14 < 16) (k : Lb K G w0 Q 4 2 [(0, .ref (xa σ 0)), (1, .int (x1 + 1))] [] (WM G (wi σ 4 n14 0)) 0 0) : Lb K G w0 Q 4 2 [(0, .ref (xa σ 0)), (1, .int x1)] [] (WM G σ) 0 0 := by
  refine b_iload_n X d_M_findNothing_2 1 rfl rfl ?_
  refine b_bipush X (v := 16) d_M_findNothing_3 (by decide) ?_
  refine b_icmp_ge X (tgt := 21) d_M_findNothing_5 (by decide) (fun h => absurd h c5) (fun _ => ?_)
  refine b_aload_n X d_M_findNothing_8 0 rfl rfl ?_
  refine b_get X fl_M_19 0 rfl (v := .ref (xa σ 4)) rfl d_M_findNothing_9 ?_
  refine b_iload_n X d_M_findNothing_12 1 rfl rfl ?_
  refine b_iconst X (v := 0) d_M_findNothing_13 (by decide) ?_
  refine b_zast X 4 rfl (by decide) n14 e14 h14 (by decide) (uWM_4 G σ n14 0) d_M_findNothing_14 ?_
  refine b_iinc X (lv' := [(0, .ref (xa σ 0)), (1, .int (x1 + 1))]) d_M_findNothing_15 1 rfl (v := (x1 + 1)) rfl (by decide) [1, 0] rfl ?_
  refine b_goto X (tgt := 2) d_M_findNothing_18 (by decide) ?_
  exact k
theorem sg_M_findNothing_23_tr {K : KX} {G : GG} {w0 : va_W} {post : PostT} (X : Bd K G w0 "FirstTreesModel" c_M_findNothing 4 none rm_M_findNothing) (σ : St) (x1 : Int32)  (c28 : (xi σ 0 1) ≤ x1) (hp : post none (WM G σ)) : Lb K G w0 (Qe K G w0 post rm_M_findNothing) 4 23 [(0, .ref (xa σ 0)), (1, .int x1)] [] (WM G σ) 0 0 := by
  refine b_iload_n X d_M_findNothing_23 1 rfl rfl ?_
  refine b_aload_n X d_M_findNothing_24 0 rfl rfl ?_
  refine b_get X fl_M_89 0 rfl (v := .int (xi σ 0 1)) rfl d_M_findNothing_25 ?_
  refine b_icmp_ge X (tgt := 101) d_M_findNothing_28 (by decide) (fun _ => ?_) (fun h => absurd c28 h)
  exact b_vret X d_M_findNothing_101 hp
theorem sg_M_findNothing_23_f33 {K : KX} {G : GG} {w0 : va_W} {Q : State → Prop} (X : Bd K G w0 "FirstTreesModel" c_M_findNothing 4 none rm_M_findNothing) (σ : St) (x1 : Int32)  (c28 : ¬ (xi σ 0 1) ≤ x1) (k : Lb K G w0 Q 4 33 [(0, .ref (xa σ 0)), (1, .int x1), (2, .int 0)] [] (WM G σ) 0 0) : Lb K G w0 Q 4 23 [(0, .ref (xa σ 0)), (1, .int x1)] [] (WM G σ) 0 0 := by
  refine b_iload_n X d_M_findNothing_23 1 rfl rfl ?_
  refine b_aload_n X d_M_findNothing_24 0 rfl rfl ?_
  refine b_get X fl_M_89 0 rfl (v := .int (xi σ 0 1)) rfl d_M_findNothing_25 ?_
  refine b_icmp_ge X (tgt := 101) d_M_findNothing_28 (by decide) (fun h => absurd h c28) (fun _ => ?_)
  refine b_iconst X (v := 0) d_M_findNothing_31 (by decide) ?_
  refine b_istore_n X (lv' := [(0, .ref (xa σ 0)), (1, .int x1), (2, .int 0)]) d_M_findNothing_32 rfl (by decide) [1, 2, 0] rfl ?_
  exact k
theorem sg_M_findNothing_33_t23 {K : KX} {G : GG} {w0 : va_W} {Q : State → Prop} (X : Bd K G w0 "FirstTreesModel" c_M_findNothing 4 none rm_M_findNothing) (σ : St) (x1 : Int32) (x2 : Int32)  (c38 : (xi σ 0 1) ≤ x2) (k : Lb K G w0 Q 4 23 [(0, .ref (xa σ 0)), (1, .int (x1 + 1))] [] (WM G σ) 0 0) : Lb K G w0 Q 4 33 [(0, .ref (xa σ 0)), (1, .int x1), (2, .int x2)] [] (WM G σ) 0 0 := by
  refine b_iload_n X d_M_findNothing_33 2 rfl rfl ?_
  refine b_aload_n X d_M_findNothing_34 0 rfl rfl ?_
  refine b_get X fl_M_89 0 rfl (v := .int (xi σ 0 1)) rfl d_M_findNothing_35 ?_
  refine b_icmp_ge X (tgt := 95) d_M_findNothing_38 (by decide) (fun _ => ?_) (fun h => absurd c38 h)
  refine b_iinc X (lv' := [(0, .ref (xa σ 0)), (1, .int (x1 + 1)), (2, .int x2)]) d_M_findNothing_95 1 rfl (v := (x1 + 1)) rfl (by decide) [1, 0, 2] rfl ?_
  refine b_goto X (tgt := 23) d_M_findNothing_98 (by decide) ?_
  refine Lb.pick (lv' := [(0, .ref (xa σ 0)), (1, .int (x1 + 1))]) [0, 1] rfl ?_
  exact k
theorem sg_M_findNothing_33_f43 {K : KX} {G : GG} {w0 : va_W} {Q : State → Prop} (X : Bd K G w0 "FirstTreesModel" c_M_findNothing 4 none rm_M_findNothing) (σ : St) (x1 : Int32) (x2 : Int32)  (c38 : ¬ (xi σ 0 1) ≤ x2) (k : Lb K G w0 Q 4 43 [(0, .ref (xa σ 0)), (1, .int x1), (2, .int x2), (3, .int 0)] [] (WM G σ) 0 0) : Lb K G w0 Q 4 33 [(0, .ref (xa σ 0)), (1, .int x1), (2, .int x2)] [] (WM G σ) 0 0 := by
  refine b_iload_n X d_M_findNothing_33 2 rfl rfl ?_
  refine b_aload_n X d_M_findNothing_34 0 rfl rfl ?_
  refine b_get X fl_M_89 0 rfl (v := .int (xi σ 0 1)) rfl d_M_findNothing_35 ?_
  refine b_icmp_ge X (tgt := 95) d_M_findNothing_38 (by decide) (fun h => absurd h c38) (fun _ => ?_)
  refine b_iconst X (v := 0) d_M_findNothing_41 (by decide) ?_
  refine b_istore_n X (lv' := [(0, .ref (xa σ 0)), (1, .int x1), (2, .int x2), (3, .int 0)]) d_M_findNothing_42 rfl (by decide) [1, 2, 3, 0] rfl ?_
  exact k
theorem sg_M_findNothing_43_t33 {K : KX} {G : GG} {w0 : va_W} {Q : State → Prop} (X : Bd K G w0 "FirstTreesModel" c_M_findNothing 4 none rm_M_findNothing) (σ : St) (x1 : Int32) (x2 : Int32) (x3 : Int32) (n49 : Nat) (e49 : x2 = nI n49) (h49 : n49 < 16) (c50 : (xi σ 1 n49) ≤ x3) (k : Lb K G w0 Q 4 33 [(0, .ref (xa σ 0)), (1, .int x1), (2, .int (x2 + 1))] [] (WM G σ) 0 0) : Lb K G w0 Q 4 43 [(0, .ref (xa σ 0)), (1, .int x1), (2, .int x2), (3, .int x3)] [] (WM G σ) 0 0 := by
  refine b_iload_n X d_M_findNothing_43 3 rfl rfl ?_
  refine b_aload_n X d_M_findNothing_44 0 rfl rfl ?_
  refine b_get X fl_M_7 0 rfl (v := .ref (xa σ 1)) rfl d_M_findNothing_45 ?_
  refine b_iload_n X d_M_findNothing_48 2 rfl rfl ?_
  refine b_iald X 1 rfl (by decide) n49 e49 h49 d_M_findNothing_49 ?_
  refine b_icmp_ge X (tgt := 89) d_M_findNothing_50 (by decide) (fun _ => ?_) (fun h => absurd c50 h)
  refine b_iinc X (lv' := [(0, .ref (xa σ 0)), (1, .int x1), (2, .int (x2 + 1)), (3, .int x3)]) d_M_findNothing_89 2 rfl (v := (x2 + 1)) rfl (by decide) [1, 2, 0, 3] rfl ?_
  refine b_goto X (tgt := 33) d_M_findNothing_92 (by decide) ?_
  refine Lb.pick (lv' := [(0, .ref (xa σ 0)), (1, .int x1), (2, .int (x2 + 1))]) [0, 1, 2] rfl ?_
  exact k
theorem sg_M_findNothing_43_ft43 {K : KX} {G : GG} {w0 : va_W} {Q : State → Prop} (X : Bd K G w0 "FirstTreesModel" c_M_findNothing 4 none rm_M_findNothing) (σ : St) (x1 : Int32) (x2 : Int32) (x3 : Int32) (n49 : Nat) (e49 : x2 = nI n49) (h49 : n49 < 16) (c50 : ¬ (xi σ 1 n49) ≤ x3) (c64 : ¬ (xi σ 4 n49) = 0) (k : Lb K G w0 Q 4 43 [(0, .ref (xa σ 0)), (1, .int x1), (2, .int x2), (3, .int (x3 + 1))] [] (WM G (wi σ 4 n49 1)) 0 0) : Lb K G w0 Q 4 43 [(0, .ref (xa σ 0)), (1, .int x1), (2, .int x2), (3, .int x3)] [] (WM G σ) 0 0 := by
  refine b_iload_n X d_M_findNothing_43 3 rfl rfl ?_
  refine b_aload_n X d_M_findNothing_44 0 rfl rfl ?_
  refine b_get X fl_M_7 0 rfl (v := .ref (xa σ 1)) rfl d_M_findNothing_45 ?_
  refine b_iload_n X d_M_findNothing_48 2 rfl rfl ?_
  refine b_iald X 1 rfl (by decide) n49 e49 h49 d_M_findNothing_49 ?_
  refine b_icmp_ge X (tgt := 89) d_M_findNothing_50 (by decide) (fun h => absurd h c50) (fun _ => ?_)
  refine b_aload_n X d_M_findNothing_53 0 rfl rfl ?_
  refine b_get X fl_M_19 0 rfl (v := .ref (xa σ 4)) rfl d_M_findNothing_54 ?_
  refine b_iload_n X d_M_findNothing_57 2 rfl rfl ?_
  refine b_aload_n X d_M_findNothing_58 0 rfl rfl ?_
  refine b_get X fl_M_19 0 rfl (v := .ref (xa σ 4)) rfl d_M_findNothing_59 ?_
  refine b_iload_n X d_M_findNothing_62 2 rfl rfl ?_
  refine b_zald X 4 rfl (by decide) n49 e49 h49 d_M_findNothing_63 ?_
  refine b_if_ne X (tgt := 77) d_M_findNothing_64 (by decide) (fun _ => ?_) (fun h => absurd h c64)
  refine b_iconst X (v := 1) d_M_findNothing_77 (by decide) ?_
  refine b_goto X (tgt := 82) d_M_findNothing_78 (by decide) ?_
  refine b_zast X 4 rfl (by decide) n49 e49 h49 (by decide) (uWM_4 G σ n49 1) d_M_findNothing_82 ?_
  refine b_iinc X (lv' := [(0, .ref (xa σ 0)), (1, .int x1), (2, .int x2), (3, .int (x3 + 1))]) d_M_findNothing_83 3 rfl (v := (x3 + 1)) rfl (by decide) [1, 2, 3, 0] rfl ?_
  refine b_goto X (tgt := 43) d_M_findNothing_86 (by decide) ?_
  exact k
theorem sg_M_findNothing_43_fft43 {K : KX} {G : GG} {w0 : va_W} {Q : State → Prop} (X : Bd K G w0 "FirstTreesModel" c_M_findNothing 4 none rm_M_findNothing) (σ : St) (x1 : Int32) (x2 : Int32) (x3 : Int32) (n49 : Nat) (r71 : Int32) (e49 : x2 = nI n49) (h49 : n49 < 16) (c50 : ¬ (xi σ 1 n49) ≤ x3) (c64 : (xi σ 4 n49) = 0) (t71 : Ct y_M_rowIsNothing c_M_rowIsNothing 7 (some .boolean) rm_M_rowIsNothing G [.ref (xa σ 0), .int x2, .int x3, .int 0] (WM G σ) (eqp (some (.int r71)) (WM G σ))) (c74 : r71 = 0) (k : Lb K G w0 Q 4 43 [(0, .ref (xa σ 0)), (1, .int x1), (2, .int x2), (3, .int (x3 + 1))] [] (WM G (wi σ 4 n49 0)) 0 0) : Lb K G w0 Q 4 43 [(0, .ref (xa σ 0)), (1, .int x1), (2, .int x2), (3, .int x3)] [] (WM G σ) 0 0 := by
  refine b_iload_n X d_M_findNothing_43 3 rfl rfl ?_
  refine b_aload_n X d_M_findNothing_44 0 rfl rfl ?_
  refine b_get X fl_M_7 0 rfl (v := .ref (xa σ 1)) rfl d_M_findNothing_45 ?_
  refine b_iload_n X d_M_findNothing_48 2 rfl rfl ?_
  refine b_iald X 1 rfl (by decide) n49 e49 h49 d_M_findNothing_49 ?_
  refine b_icmp_ge X (tgt := 89) d_M_findNothing_50 (by decide) (fun h => absurd h c50) (fun _ => ?_)
  refine b_aload_n X d_M_findNothing_53 0 rfl rfl ?_
  refine b_get X fl_M_19 0 rfl (v := .ref (xa σ 4)) rfl d_M_findNothing_54 ?_
  refine b_iload_n X d_M_findNothing_57 2 rfl rfl ?_
  refine b_aload_n X d_M_findNothing_58 0 rfl rfl ?_
  refine b_get X fl_M_19 0 rfl (v := .ref (xa σ 4)) rfl d_M_findNothing_59 ?_
  refine b_iload_n X d_M_findNothing_62 2 rfl rfl ?_
  refine b_zald X 4 rfl (by decide) n49 e49 h49 d_M_findNothing_63 ?_
  refine b_if_ne X (tgt := 77) d_M_findNothing_64 (by decide) (fun h => absurd c64 h) (fun _ => ?_)
  refine b_aload_n X d_M_findNothing_67 0 rfl rfl ?_
  refine b_iload_n X d_M_findNothing_68 2 rfl rfl ?_
  refine b_iload_n X d_M_findNothing_69 3 rfl rfl ?_
  refine b_iconst X (v := 0) d_M_findNothing_70 (by decide) ?_
  refine b_dV X cf_M_rowIsNothing ci_M_rowIsNothing ml_M_92 t71 0 rfl rfl (As := [.int x2, .int x3, .int 0]) (rest := [.int x2, .ref (xa σ 4)]) rfl (Nat.le_of_ble_eq_true rfl) ⟨Nat.le_of_ble_eq_true rfl, Nat.le_of_ble_eq_true rfl⟩ ⟨Nat.le_of_ble_eq_true rfl, Nat.le_of_ble_eq_true rfl⟩ rfl rfl d_M_findNothing_71 ?_
  refine b_if_eq X (tgt := 81) d_M_findNothing_74 (by decide) (fun _ => ?_) (fun h => absurd c74 h)
  refine b_iconst X (v := 0) d_M_findNothing_81 (by decide) ?_
  refine b_zast X 4 rfl (by decide) n49 e49 h49 (by decide) (uWM_4 G σ n49 0) d_M_findNothing_82 ?_
  refine b_iinc X (lv' := [(0, .ref (xa σ 0)), (1, .int x1), (2, .int x2), (3, .int (x3 + 1))]) d_M_findNothing_83 3 rfl (v := (x3 + 1)) rfl (by decide) [1, 2, 3, 0] rfl ?_
  refine b_goto X (tgt := 43) d_M_findNothing_86 (by decide) ?_
  exact k
theorem sg_M_findNothing_43_fff43 {K : KX} {G : GG} {w0 : va_W} {Q : State → Prop} (X : Bd K G w0 "FirstTreesModel" c_M_findNothing 4 none rm_M_findNothing) (σ : St) (x1 : Int32) (x2 : Int32) (x3 : Int32) (n49 : Nat) (r71 : Int32) (e49 : x2 = nI n49) (h49 : n49 < 16) (c50 : ¬ (xi σ 1 n49) ≤ x3) (c64 : (xi σ 4 n49) = 0) (t71 : Ct y_M_rowIsNothing c_M_rowIsNothing 7 (some .boolean) rm_M_rowIsNothing G [.ref (xa σ 0), .int x2, .int x3, .int 0] (WM G σ) (eqp (some (.int r71)) (WM G σ))) (c74 : ¬ r71 = 0) (k : Lb K G w0 Q 4 43 [(0, .ref (xa σ 0)), (1, .int x1), (2, .int x2), (3, .int (x3 + 1))] [] (WM G (wi σ 4 n49 1)) 0 0) : Lb K G w0 Q 4 43 [(0, .ref (xa σ 0)), (1, .int x1), (2, .int x2), (3, .int x3)] [] (WM G σ) 0 0 := by
  refine b_iload_n X d_M_findNothing_43 3 rfl rfl ?_
  refine b_aload_n X d_M_findNothing_44 0 rfl rfl ?_
  refine b_get X fl_M_7 0 rfl (v := .ref (xa σ 1)) rfl d_M_findNothing_45 ?_
  refine b_iload_n X d_M_findNothing_48 2 rfl rfl ?_
  refine b_iald X 1 rfl (by decide) n49 e49 h49 d_M_findNothing_49 ?_
  refine b_icmp_ge X (tgt := 89) d_M_findNothing_50 (by decide) (fun h => absurd h c50) (fun _ => ?_)
  refine b_aload_n X d_M_findNothing_53 0 rfl rfl ?_
  refine b_get X fl_M_19 0 rfl (v := .ref (xa σ 4)) rfl d_M_findNothing_54 ?_
  refine b_iload_n X d_M_findNothing_57 2 rfl rfl ?_
  refine b_aload_n X d_M_findNothing_58 0 rfl rfl ?_
  refine b_get X fl_M_19 0 rfl (v := .ref (xa σ 4)) rfl d_M_findNothing_59 ?_
  refine b_iload_n X d_M_findNothing_62 2 rfl rfl ?_
  refine b_zald X 4 rfl (by decide) n49 e49 h49 d_M_findNothing_63 ?_
  refine b_if_ne X (tgt := 77) d_M_findNothing_64 (by decide) (fun h => absurd c64 h) (fun _ => ?_)
  refine b_aload_n X d_M_findNothing_67 0 rfl rfl ?_
  refine b_iload_n X d_M_findNothing_68 2 rfl rfl ?_
  refine b_iload_n X d_M_findNothing_69 3 rfl rfl ?_
  refine b_iconst X (v := 0) d_M_findNothing_70 (by decide) ?_
  refine b_dV X cf_M_rowIsNothing ci_M_rowIsNothing ml_M_92 t71 0 rfl rfl (As := [.int x2, .int x3, .int 0]) (rest := [.int x2, .ref (xa σ 4)]) rfl (Nat.le_of_ble_eq_true rfl) ⟨Nat.le_of_ble_eq_true rfl, Nat.le_of_ble_eq_true rfl⟩ ⟨Nat.le_of_ble_eq_true rfl, Nat.le_of_ble_eq_true rfl⟩ rfl rfl d_M_findNothing_71 ?_
  refine b_if_eq X (tgt := 81) d_M_findNothing_74 (by decide) (fun h => absurd h c74) (fun _ => ?_)
  refine b_iconst X (v := 1) d_M_findNothing_77 (by decide) ?_
  refine b_goto X (tgt := 82) d_M_findNothing_78 (by decide) ?_
  refine b_zast X 4 rfl (by decide) n49 e49 h49 (by decide) (uWM_4 G σ n49 1) d_M_findNothing_82 ?_
  refine b_iinc X (lv' := [(0, .ref (xa σ 0)), (1, .int x1), (2, .int x2), (3, .int (x3 + 1))]) d_M_findNothing_83 3 rfl (v := (x3 + 1)) rfl (by decide) [1, 2, 3, 0] rfl ?_
  refine b_goto X (tgt := 43) d_M_findNothing_86 (by decide) ?_
  exact k
theorem sg_M_findLeft_0_2 {K : KX} {G : GG} {w0 : va_W} {Q : State → Prop} (X : Bd K G w0 "FirstTreesModel" c_M_findLeft 6 none rm_M_findLeft) (σ : St)    (k : Lb K G w0 Q 6 2 [(0, .ref (xa σ 0)), (1, .int 0)] [] (WM G σ) 0 0) : Lb K G w0 Q 6 0 [(0, .ref (xa σ 0))] [] (WM G σ) 0 0 := by
  refine b_iconst X (v := 0) d_M_findLeft_0 (by decide) ?_
  refine b_istore_n X (lv' := [(0, .ref (xa σ 0)), (1, .int 0)]) d_M_findLeft_1 rfl (by decide) [1, 0] rfl ?_
  exact k
theorem sg_M_findLeft_2_t24 {K : KX} {G : GG} {w0 : va_W} {Q : State → Prop} (X : Bd K G w0 "FirstTreesModel" c_M_findLeft 6 none rm_M_findLeft) (σ : St) (x1 : Int32)  (c6 : 256 ≤ x1) (k : Lb K G w0 Q 6 24 [(0, .ref (xa σ 0)), (1, .int 0)] [] (WM G σ) 0 0) : Lb K G w0 Q 6 2 [(0, .ref (xa σ 0)), (1, .int x1)] [] (WM G σ) 0 0 := by
  refine b_iload_n X d_M_findLeft_2 1 rfl rfl ?_
  refine b_sipush X (v := 256) d_M_findLeft_3 (by decide) ?_
  refine b_icmp_ge X (tgt := 22) d_M_findLeft_6 (by decide) (fun _ => ?_) (fun h => absurd c6 h)
  refine b_iconst X (v := 0) d_M_findLeft_22 (by decide) ?_
  refine b_istore_n X (lv' := [(0, .ref (xa σ 0)), (1, .int 0)]) d_M_findLeft_23 rfl (by decide) [1, 0] rfl ?_
  exact k
theorem sg_M_findLeft_2_f2 {K : KX} {G : GG} {w0 : va_W} {Q : State → Prop} (X : Bd K G w0 "FirstTreesModel" c_M_findLeft 6 none rm_M_findLeft) (σ : St) (x1 : Int32) (n15 : Nat) (c6 : ¬ 256 ≤ x1) (e15 : x1 = nI n15) (h15 : n15 < 256) (k : Lb K G w0 Q 6 2 [(0, .ref (xa σ 0)), (1, .int (x1 + 1))] [] (WM G (wi σ 5 n15 0)) 0 0) : Lb K G w0 Q 6 2 [(0, .ref (xa σ 0)), (1, .int x1)] [] (WM G σ) 0 0 := by
  refine b_iload_n X d_M_findLeft_2 1 rfl rfl ?_
  refine b_sipush X (v := 256) d_M_findLeft_3 (by decide) ?_
  refine b_icmp_ge X (tgt := 22) d_M_findLeft_6 (by decide) (fun h => absurd h c6) (fun _ => ?_)
  refine b_aload_n X d_M_findLeft_9 0 rfl rfl ?_
  refine b_get X fl_M_23 0 rfl (v := .ref (xa σ 5)) rfl d_M_findLeft_10 ?_
  refine b_iload_n X d_M_findLeft_13 1 rfl rfl ?_
  refine b_iconst X (v := 0) d_M_findLeft_14 (by decide) ?_
  refine b_zast X 5 rfl (by decide) n15 e15 h15 (by decide) (uWM_5 G σ n15 0) d_M_findLeft_15 ?_
  refine b_iinc X (lv' := [(0, .ref (xa σ 0)), (1, .int (x1 + 1))]) d_M_findLeft_16 1 rfl (v := (x1 + 1)) rfl (by decide) [1, 0] rfl ?_
  refine b_goto X (tgt := 2) d_M_findLeft_19 (by decide) ?_
  exact k
theorem sg_M_findLeft_24_t147 {K : KX} {G : GG} {w0 : va_W} {Q : State → Prop} (X : Bd K G w0 "FirstTreesModel" c_M_findLeft 6 none rm_M_findLeft) (σ : St) (x1 : Int32)  (c29 : (xi σ 0 1) ≤ x1) (k : Lb K G w0 Q 6 147 [(0, .ref (xa σ 0)), (1, .int 0)] [] (WM G σ) 0 0) : Lb K G w0 Q 6 24 [(0, .ref (xa σ 0)), (1, .int x1)] [] (WM G σ) 0 0 := by
  refine b_iload_n X d_M_findLeft_24 1 rfl rfl ?_
  refine b_aload_n X d_M_findLeft_25 0 rfl rfl ?_
  refine b_get X fl_M_89 0 rfl (v := .int (xi σ 0 1)) rfl d_M_findLeft_26 ?_
  refine b_icmp_ge X (tgt := 145) d_M_findLeft_29 (by decide) (fun _ => ?_) (fun h => absurd c29 h)
  refine b_iconst X (v := 0) d_M_findLeft_145 (by decide) ?_
  refine b_istore_n X (lv' := [(0, .ref (xa σ 0)), (1, .int 0)]) d_M_findLeft_146 rfl (by decide) [1, 0] rfl ?_
  exact k
theorem sg_M_findLeft_24_f34 {K : KX} {G : GG} {w0 : va_W} {Q : State → Prop} (X : Bd K G w0 "FirstTreesModel" c_M_findLeft 6 none rm_M_findLeft) (σ : St) (x1 : Int32)  (c29 : ¬ (xi σ 0 1) ≤ x1) (k : Lb K G w0 Q 6 34 [(0, .ref (xa σ 0)), (1, .int x1), (2, .int 0)] [] (WM G σ) 0 0) : Lb K G w0 Q 6 24 [(0, .ref (xa σ 0)), (1, .int x1)] [] (WM G σ) 0 0 := by
  refine b_iload_n X d_M_findLeft_24 1 rfl rfl ?_
  refine b_aload_n X d_M_findLeft_25 0 rfl rfl ?_
  refine b_get X fl_M_89 0 rfl (v := .int (xi σ 0 1)) rfl d_M_findLeft_26 ?_
  refine b_icmp_ge X (tgt := 145) d_M_findLeft_29 (by decide) (fun h => absurd h c29) (fun _ => ?_)
  refine b_iconst X (v := 0) d_M_findLeft_32 (by decide) ?_
  refine b_istore_n X (lv' := [(0, .ref (xa σ 0)), (1, .int x1), (2, .int 0)]) d_M_findLeft_33 rfl (by decide) [1, 2, 0] rfl ?_
  exact k
theorem sg_M_findLeft_34_t24 {K : KX} {G : GG} {w0 : va_W} {Q : State → Prop} (X : Bd K G w0 "FirstTreesModel" c_M_findLeft 6 none rm_M_findLeft) (σ : St) (x1 : Int32) (x2 : Int32) (n40 : Nat) (e40 : x1 = nI n40) (h40 : n40 < 16) (c41 : (xi σ 1 n40) ≤ x2) (k : Lb K G w0 Q 6 24 [(0, .ref (xa σ 0)), (1, .int (x1 + 1))] [] (WM G σ) 0 0) : Lb K G w0 Q 6 34 [(0, .ref (xa σ 0)), (1, .int x1), (2, .int x2)] [] (WM G σ) 0 0 := by
  refine b_iload_n X d_M_findLeft_34 2 rfl rfl ?_
  refine b_aload_n X d_M_findLeft_35 0 rfl rfl ?_
  refine b_get X fl_M_7 0 rfl (v := .ref (xa σ 1)) rfl d_M_findLeft_36 ?_
  refine b_iload_n X d_M_findLeft_39 1 rfl rfl ?_
  refine b_iald X 1 rfl (by decide) n40 e40 h40 d_M_findLeft_40 ?_
  refine b_icmp_ge X (tgt := 139) d_M_findLeft_41 (by decide) (fun _ => ?_) (fun h => absurd c41 h)
  refine b_iinc X (lv' := [(0, .ref (xa σ 0)), (1, .int (x1 + 1)), (2, .int x2)]) d_M_findLeft_139 1 rfl (v := (x1 + 1)) rfl (by decide) [1, 0, 2] rfl ?_
  refine b_goto X (tgt := 24) d_M_findLeft_142 (by decide) ?_
  refine Lb.pick (lv' := [(0, .ref (xa σ 0)), (1, .int (x1 + 1))]) [0, 1] rfl ?_
  exact k
theorem sg_M_findLeft_34_f49 {K : KX} {G : GG} {w0 : va_W} {Q : State → Prop} (X : Bd K G w0 "FirstTreesModel" c_M_findLeft 6 none rm_M_findLeft) (σ : St) (x1 : Int32) (x2 : Int32) (n40 : Nat) (e40 : x1 = nI n40) (h40 : n40 < 16) (c41 : ¬ (xi σ 1 n40) ≤ x2) (k : Lb K G w0 Q 6 49 [(0, .ref (xa σ 0)), (1, .int x1), (2, .int x2), (3, .int 1), (4, .int 0)] [] (WM G σ) 0 0) : Lb K G w0 Q 6 34 [(0, .ref (xa σ 0)), (1, .int x1), (2, .int x2)] [] (WM G σ) 0 0 := by
  refine b_iload_n X d_M_findLeft_34 2 rfl rfl ?_
  refine b_aload_n X d_M_findLeft_35 0 rfl rfl ?_
  refine b_get X fl_M_7 0 rfl (v := .ref (xa σ 1)) rfl d_M_findLeft_36 ?_
  refine b_iload_n X d_M_findLeft_39 1 rfl rfl ?_
  refine b_iald X 1 rfl (by decide) n40 e40 h40 d_M_findLeft_40 ?_
  refine b_icmp_ge X (tgt := 139) d_M_findLeft_41 (by decide) (fun h => absurd h c41) (fun _ => ?_)
  refine b_iconst X (v := 1) d_M_findLeft_44 (by decide) ?_
  refine b_istore_n X (lv' := [(0, .ref (xa σ 0)), (1, .int x1), (2, .int x2), (3, .int 1)]) d_M_findLeft_45 rfl (by decide) [1, 2, 3, 0] rfl ?_
  refine b_iconst X (v := 0) d_M_findLeft_46 (by decide) ?_
  refine b_istore X (lv' := [(0, .ref (xa σ 0)), (1, .int x1), (2, .int x2), (3, .int 1), (4, .int 0)]) d_M_findLeft_47 (by decide) [1, 2, 3, 4, 0] rfl ?_
  exact k
theorem sg_M_findLeft_49_t34 {K : KX} {G : GG} {w0 : va_W} {Q : State → Prop} (X : Bd K G w0 "FirstTreesModel" c_M_findLeft 6 none rm_M_findLeft) (σ : St) (x1 : Int32) (x2 : Int32) (x3 : Int32) (x4 : Int32) (n54 : Nat) (e54 : ((8 * x1) + x2) = nI n54) (h54 : n54 < 128) (c57 : (xi σ 2 n54) ≤ x4) (k : Lb K G w0 Q 6 34 [(0, .ref (xa σ 0)), (1, .int x1), (2, .int (x2 + 1))] [] (WM G σ) 0 0) : Lb K G w0 Q 6 49 [(0, .ref (xa σ 0)), (1, .int x1), (2, .int x2), (3, .int x3), (4, .int x4)] [] (WM G σ) 0 0 := by
  refine b_iload X d_M_findLeft_49 4 rfl ?_
  refine b_aload_n X d_M_findLeft_51 0 rfl rfl ?_
  refine b_iload_n X d_M_findLeft_52 1 rfl rfl ?_
  refine b_iload_n X d_M_findLeft_53 2 rfl rfl ?_
  refine b_dV X cf_M_sizeOf ci_M_sizeOf ml_M_77 (ct_M_sizeOf_ G σ x1 x2 n54 e54 h54) 0 rfl rfl (As := [.int x1, .int x2]) (rest := [.int x4]) rfl (Nat.le_of_ble_eq_true rfl) ⟨Nat.le_of_ble_eq_true rfl, Nat.le_of_ble_eq_true rfl⟩ ⟨Nat.le_of_ble_eq_true rfl, Nat.le_of_ble_eq_true rfl⟩ rfl rfl d_M_findLeft_54 ?_
  refine b_icmp_ge X (tgt := 133) d_M_findLeft_57 (by decide) (fun _ => ?_) (fun h => absurd c57 h)
  refine b_iinc X (lv' := [(0, .ref (xa σ 0)), (1, .int x1), (2, .int (x2 + 1)), (3, .int x3), (4, .int x4)]) d_M_findLeft_133 2 rfl (v := (x2 + 1)) rfl (by decide) [1, 2, 0, 3, 4] rfl ?_
  refine b_goto X (tgt := 34) d_M_findLeft_136 (by decide) ?_
  refine Lb.pick (lv' := [(0, .ref (xa σ 0)), (1, .int x1), (2, .int (x2 + 1))]) [0, 1, 2] rfl ?_
  exact k
theorem sg_M_findLeft_49_ftt49 {K : KX} {G : GG} {w0 : va_W} {Q : State → Prop} (X : Bd K G w0 "FirstTreesModel" c_M_findLeft 6 none rm_M_findLeft) (σ : St) (x1 : Int32) (x2 : Int32) (x3 : Int32) (x4 : Int32) (n54 : Nat) (n65 : Nat) (e54 : ((8 * x1) + x2) = nI n54) (h54 : n54 < 128) (c57 : ¬ (xi σ 2 n54) ≤ x4) (e65 : (((64 * x1) + (8 * x2)) + x4) = nI n65) (h65 : n65 < 1024) (c71 : x3 = 0) (c98 : x3 = 0) (k : Lb K G w0 Q 6 49 [(0, .ref (xa σ 0)), (1, .int x1), (2, .int x2), (3, .int 0), (4, .int (x4 + 1))] [] (WM G σ) 0 0) : Lb K G w0 Q 6 49 [(0, .ref (xa σ 0)), (1, .int x1), (2, .int x2), (3, .int x3), (4, .int x4)] [] (WM G σ) 0 0 := by
  refine b_iload X d_M_findLeft_49 4 rfl ?_
  refine b_aload_n X d_M_findLeft_51 0 rfl rfl ?_
  refine b_iload_n X d_M_findLeft_52 1 rfl rfl ?_
  refine b_iload_n X d_M_findLeft_53 2 rfl rfl ?_
  refine b_dV X cf_M_sizeOf ci_M_sizeOf ml_M_77 (ct_M_sizeOf_ G σ x1 x2 n54 e54 h54) 0 rfl rfl (As := [.int x1, .int x2]) (rest := [.int x4]) rfl (Nat.le_of_ble_eq_true rfl) ⟨Nat.le_of_ble_eq_true rfl, Nat.le_of_ble_eq_true rfl⟩ ⟨Nat.le_of_ble_eq_true rfl, Nat.le_of_ble_eq_true rfl⟩ rfl rfl d_M_findLeft_54 ?_
  refine b_icmp_ge X (tgt := 133) d_M_findLeft_57 (by decide) (fun h => absurd h c57) (fun _ => ?_)
  refine b_aload_n X d_M_findLeft_60 0 rfl rfl ?_
  refine b_iload_n X d_M_findLeft_61 1 rfl rfl ?_
  refine b_iload_n X d_M_findLeft_62 2 rfl rfl ?_
  refine b_iload X d_M_findLeft_63 4 rfl ?_
  refine b_dV X cf_M_symbolAt ci_M_symbolAt ml_M_81 (ct_M_symbolAt_ G σ x1 x2 x4 n65 e65 h65) 0 rfl rfl (As := [.int x1, .int x2, .int x4]) (rest := []) rfl (Nat.le_of_ble_eq_true rfl) ⟨Nat.le_of_ble_eq_true rfl, Nat.le_of_ble_eq_true rfl⟩ ⟨Nat.le_of_ble_eq_true rfl, Nat.le_of_ble_eq_true rfl⟩ rfl rfl d_M_findLeft_65 ?_
  refine b_istore X (lv' := [(0, .ref (xa σ 0)), (1, .int x1), (2, .int x2), (3, .int x3), (4, .int x4), (5, .int (xi σ 3 n65))]) d_M_findLeft_68 (by decide) [1, 2, 3, 4, 5, 0] rfl ?_
  refine b_iload_n X d_M_findLeft_70 3 rfl rfl ?_
  refine b_if_eq X (tgt := 97) d_M_findLeft_71 (by decide) (fun _ => ?_) (fun h => absurd c71 h)
  refine b_iload_n X d_M_findLeft_97 3 rfl rfl ?_
  refine b_if_eq X (tgt := 125) d_M_findLeft_98 (by decide) (fun _ => ?_) (fun h => absurd c98 h)
  refine b_iconst X (v := 0) d_M_findLeft_125 (by decide) ?_
  refine b_istore_n X (lv' := [(0, .ref (xa σ 0)), (1, .int x1), (2, .int x2), (3, .int 0), (4, .int x4), (5, .int (xi σ 3 n65))]) d_M_findLeft_126 rfl (by decide) [1, 2, 3, 0, 4, 5] rfl ?_
  refine b_iinc X (lv' := [(0, .ref (xa σ 0)), (1, .int x1), (2, .int x2), (3, .int 0), (4, .int (x4 + 1)), (5, .int (xi σ 3 n65))]) d_M_findLeft_127 4 rfl (v := (x4 + 1)) rfl (by decide) [1, 2, 3, 4, 0, 5] rfl ?_
  refine b_goto X (tgt := 49) d_M_findLeft_130 (by decide) ?_
  refine Lb.pick (lv' := [(0, .ref (xa σ 0)), (1, .int x1), (2, .int x2), (3, .int 0), (4, .int (x4 + 1))]) [0, 1, 2, 3, 4] rfl ?_
  exact k
theorem sg_M_findLeft_49_ftft49 {K : KX} {G : GG} {w0 : va_W} {Q : State → Prop} (X : Bd K G w0 "FirstTreesModel" c_M_findLeft 6 none rm_M_findLeft) (σ : St) (x1 : Int32) (x2 : Int32) (x3 : Int32) (x4 : Int32) (n54 : Nat) (n65 : Nat) (e54 : ((8 * x1) + x2) = nI n54) (h54 : n54 < 128) (c57 : ¬ (xi σ 2 n54) ≤ x4) (e65 : (((64 * x1) + (8 * x2)) + x4) = nI n65) (h65 : n65 < 1024) (c71 : x3 = 0) (c98 : ¬ x3 = 0) (c106 : (b2i ((xi σ 3 n65) < 0)) = 0) (k : Lb K G w0 Q 6 49 [(0, .ref (xa σ 0)), (1, .int x1), (2, .int x2), (3, .int 0), (4, .int (x4 + 1))] [] (WM G σ) 0 0) : Lb K G w0 Q 6 49 [(0, .ref (xa σ 0)), (1, .int x1), (2, .int x2), (3, .int x3), (4, .int x4)] [] (WM G σ) 0 0 := by
  refine b_iload X d_M_findLeft_49 4 rfl ?_
  refine b_aload_n X d_M_findLeft_51 0 rfl rfl ?_
  refine b_iload_n X d_M_findLeft_52 1 rfl rfl ?_
  refine b_iload_n X d_M_findLeft_53 2 rfl rfl ?_
  refine b_dV X cf_M_sizeOf ci_M_sizeOf ml_M_77 (ct_M_sizeOf_ G σ x1 x2 n54 e54 h54) 0 rfl rfl (As := [.int x1, .int x2]) (rest := [.int x4]) rfl (Nat.le_of_ble_eq_true rfl) ⟨Nat.le_of_ble_eq_true rfl, Nat.le_of_ble_eq_true rfl⟩ ⟨Nat.le_of_ble_eq_true rfl, Nat.le_of_ble_eq_true rfl⟩ rfl rfl d_M_findLeft_54 ?_
  refine b_icmp_ge X (tgt := 133) d_M_findLeft_57 (by decide) (fun h => absurd h c57) (fun _ => ?_)
  refine b_aload_n X d_M_findLeft_60 0 rfl rfl ?_
  refine b_iload_n X d_M_findLeft_61 1 rfl rfl ?_
  refine b_iload_n X d_M_findLeft_62 2 rfl rfl ?_
  refine b_iload X d_M_findLeft_63 4 rfl ?_
  refine b_dV X cf_M_symbolAt ci_M_symbolAt ml_M_81 (ct_M_symbolAt_ G σ x1 x2 x4 n65 e65 h65) 0 rfl rfl (As := [.int x1, .int x2, .int x4]) (rest := []) rfl (Nat.le_of_ble_eq_true rfl) ⟨Nat.le_of_ble_eq_true rfl, Nat.le_of_ble_eq_true rfl⟩ ⟨Nat.le_of_ble_eq_true rfl, Nat.le_of_ble_eq_true rfl⟩ rfl rfl d_M_findLeft_65 ?_
  refine b_istore X (lv' := [(0, .ref (xa σ 0)), (1, .int x1), (2, .int x2), (3, .int x3), (4, .int x4), (5, .int (xi σ 3 n65))]) d_M_findLeft_68 (by decide) [1, 2, 3, 4, 5, 0] rfl ?_
  refine b_iload_n X d_M_findLeft_70 3 rfl rfl ?_
  refine b_if_eq X (tgt := 97) d_M_findLeft_71 (by decide) (fun _ => ?_) (fun h => absurd c71 h)
  refine b_iload_n X d_M_findLeft_97 3 rfl rfl ?_
  refine b_if_eq X (tgt := 125) d_M_findLeft_98 (by decide) (fun h => absurd h c98) (fun _ => ?_)
  refine b_iload X d_M_findLeft_101 5 rfl ?_
  refine b_dS X cf_M_isRule ci_M_isRule ml_M_85 (ct_M_isRule G σ (xi σ 3 n65)) (As := [.int (xi σ 3 n65)]) (rest := []) rfl (Nat.le_of_ble_eq_true rfl) ⟨Nat.le_of_ble_eq_true rfl, Nat.le_of_ble_eq_true rfl⟩ ⟨Nat.le_of_ble_eq_true rfl, Nat.le_of_ble_eq_true rfl⟩ rfl rfl d_M_findLeft_103 ?_
  refine b_if_eq X (tgt := 125) d_M_findLeft_106 (by decide) (fun _ => ?_) (fun h => absurd c106 h)
  refine b_iconst X (v := 0) d_M_findLeft_125 (by decide) ?_
  refine b_istore_n X (lv' := [(0, .ref (xa σ 0)), (1, .int x1), (2, .int x2), (3, .int 0), (4, .int x4), (5, .int (xi σ 3 n65))]) d_M_findLeft_126 rfl (by decide) [1, 2, 3, 0, 4, 5] rfl ?_
  refine b_iinc X (lv' := [(0, .ref (xa σ 0)), (1, .int x1), (2, .int x2), (3, .int 0), (4, .int (x4 + 1)), (5, .int (xi σ 3 n65))]) d_M_findLeft_127 4 rfl (v := (x4 + 1)) rfl (by decide) [1, 2, 3, 4, 0, 5] rfl ?_
  refine b_goto X (tgt := 49) d_M_findLeft_130 (by decide) ?_
  refine Lb.pick (lv' := [(0, .ref (xa σ 0)), (1, .int x1), (2, .int x2), (3, .int 0), (4, .int (x4 + 1))]) [0, 1, 2, 3, 4] rfl ?_
  exact k
theorem sg_M_findLeft_49_ftfft49 {K : KX} {G : GG} {w0 : va_W} {Q : State → Prop} (X : Bd K G w0 "FirstTreesModel" c_M_findLeft 6 none rm_M_findLeft) (σ : St) (x1 : Int32) (x2 : Int32) (x3 : Int32) (x4 : Int32) (n54 : Nat) (n65 : Nat) (n117 : Nat) (e54 : ((8 * x1) + x2) = nI n54) (h54 : n54 < 128) (c57 : ¬ (xi σ 2 n54) ≤ x4) (e65 : (((64 * x1) + (8 * x2)) + x4) = nI n65) (h65 : n65 < 1024) (c71 : x3 = 0) (c98 : ¬ x3 = 0) (c106 : ¬ (b2i ((xi σ 3 n65) < 0)) = 0) (e117 : ((-1) - (xi σ 3 n65)) = nI n117) (h117 : n117 < 16) (c118 : (xi σ 4 n117) = 0) (k : Lb K G w0 Q 6 49 [(0, .ref (xa σ 0)), (1, .int x1), (2, .int x2), (3, .int 0), (4, .int (x4 + 1))] [] (WM G σ) 0 0) : Lb K G w0 Q 6 49 [(0, .ref (xa σ 0)), (1, .int x1), (2, .int x2), (3, .int x3), (4, .int x4)] [] (WM G σ) 0 0 := by
  refine b_iload X d_M_findLeft_49 4 rfl ?_
  refine b_aload_n X d_M_findLeft_51 0 rfl rfl ?_
  refine b_iload_n X d_M_findLeft_52 1 rfl rfl ?_
  refine b_iload_n X d_M_findLeft_53 2 rfl rfl ?_
  refine b_dV X cf_M_sizeOf ci_M_sizeOf ml_M_77 (ct_M_sizeOf_ G σ x1 x2 n54 e54 h54) 0 rfl rfl (As := [.int x1, .int x2]) (rest := [.int x4]) rfl (Nat.le_of_ble_eq_true rfl) ⟨Nat.le_of_ble_eq_true rfl, Nat.le_of_ble_eq_true rfl⟩ ⟨Nat.le_of_ble_eq_true rfl, Nat.le_of_ble_eq_true rfl⟩ rfl rfl d_M_findLeft_54 ?_
  refine b_icmp_ge X (tgt := 133) d_M_findLeft_57 (by decide) (fun h => absurd h c57) (fun _ => ?_)
  refine b_aload_n X d_M_findLeft_60 0 rfl rfl ?_
  refine b_iload_n X d_M_findLeft_61 1 rfl rfl ?_
  refine b_iload_n X d_M_findLeft_62 2 rfl rfl ?_
  refine b_iload X d_M_findLeft_63 4 rfl ?_
  refine b_dV X cf_M_symbolAt ci_M_symbolAt ml_M_81 (ct_M_symbolAt_ G σ x1 x2 x4 n65 e65 h65) 0 rfl rfl (As := [.int x1, .int x2, .int x4]) (rest := []) rfl (Nat.le_of_ble_eq_true rfl) ⟨Nat.le_of_ble_eq_true rfl, Nat.le_of_ble_eq_true rfl⟩ ⟨Nat.le_of_ble_eq_true rfl, Nat.le_of_ble_eq_true rfl⟩ rfl rfl d_M_findLeft_65 ?_
  refine b_istore X (lv' := [(0, .ref (xa σ 0)), (1, .int x1), (2, .int x2), (3, .int x3), (4, .int x4), (5, .int (xi σ 3 n65))]) d_M_findLeft_68 (by decide) [1, 2, 3, 4, 5, 0] rfl ?_
  refine b_iload_n X d_M_findLeft_70 3 rfl rfl ?_
  refine b_if_eq X (tgt := 97) d_M_findLeft_71 (by decide) (fun _ => ?_) (fun h => absurd c71 h)
  refine b_iload_n X d_M_findLeft_97 3 rfl rfl ?_
  refine b_if_eq X (tgt := 125) d_M_findLeft_98 (by decide) (fun h => absurd h c98) (fun _ => ?_)
  refine b_iload X d_M_findLeft_101 5 rfl ?_
  refine b_dS X cf_M_isRule ci_M_isRule ml_M_85 (ct_M_isRule G σ (xi σ 3 n65)) (As := [.int (xi σ 3 n65)]) (rest := []) rfl (Nat.le_of_ble_eq_true rfl) ⟨Nat.le_of_ble_eq_true rfl, Nat.le_of_ble_eq_true rfl⟩ ⟨Nat.le_of_ble_eq_true rfl, Nat.le_of_ble_eq_true rfl⟩ rfl rfl d_M_findLeft_103 ?_
  refine b_if_eq X (tgt := 125) d_M_findLeft_106 (by decide) (fun h => absurd h c106) (fun _ => ?_)
  refine b_aload_n X d_M_findLeft_109 0 rfl rfl ?_
  refine b_get X fl_M_19 0 rfl (v := .ref (xa σ 4)) rfl d_M_findLeft_110 ?_
  refine b_iconst X (v := (-1)) d_M_findLeft_113 (by decide) ?_
  refine b_iload X d_M_findLeft_114 5 rfl ?_
  refine b_isub X d_M_findLeft_116 ?_
  refine b_zald X 4 rfl (by decide) n117 e117 h117 d_M_findLeft_117 ?_
  refine b_if_eq X (tgt := 125) d_M_findLeft_118 (by decide) (fun _ => ?_) (fun h => absurd c118 h)
  refine b_iconst X (v := 0) d_M_findLeft_125 (by decide) ?_
  refine b_istore_n X (lv' := [(0, .ref (xa σ 0)), (1, .int x1), (2, .int x2), (3, .int 0), (4, .int x4), (5, .int (xi σ 3 n65))]) d_M_findLeft_126 rfl (by decide) [1, 2, 3, 0, 4, 5] rfl ?_
  refine b_iinc X (lv' := [(0, .ref (xa σ 0)), (1, .int x1), (2, .int x2), (3, .int 0), (4, .int (x4 + 1)), (5, .int (xi σ 3 n65))]) d_M_findLeft_127 4 rfl (v := (x4 + 1)) rfl (by decide) [1, 2, 3, 4, 0, 5] rfl ?_
  refine b_goto X (tgt := 49) d_M_findLeft_130 (by decide) ?_
  refine Lb.pick (lv' := [(0, .ref (xa σ 0)), (1, .int x1), (2, .int x2), (3, .int 0), (4, .int (x4 + 1))]) [0, 1, 2, 3, 4] rfl ?_
  exact k
theorem sg_M_findLeft_49_ftfff49 {K : KX} {G : GG} {w0 : va_W} {Q : State → Prop} (X : Bd K G w0 "FirstTreesModel" c_M_findLeft 6 none rm_M_findLeft) (σ : St) (x1 : Int32) (x2 : Int32) (x3 : Int32) (x4 : Int32) (n54 : Nat) (n65 : Nat) (n117 : Nat) (e54 : ((8 * x1) + x2) = nI n54) (h54 : n54 < 128) (c57 : ¬ (xi σ 2 n54) ≤ x4) (e65 : (((64 * x1) + (8 * x2)) + x4) = nI n65) (h65 : n65 < 1024) (c71 : x3 = 0) (c98 : ¬ x3 = 0) (c106 : ¬ (b2i ((xi σ 3 n65) < 0)) = 0) (e117 : ((-1) - (xi σ 3 n65)) = nI n117) (h117 : n117 < 16) (c118 : ¬ (xi σ 4 n117) = 0) (k : Lb K G w0 Q 6 49 [(0, .ref (xa σ 0)), (1, .int x1), (2, .int x2), (3, .int 1), (4, .int (x4 + 1))] [] (WM G σ) 0 0) : Lb K G w0 Q 6 49 [(0, .ref (xa σ 0)), (1, .int x1), (2, .int x2), (3, .int x3), (4, .int x4)] [] (WM G σ) 0 0 := by
  refine b_iload X d_M_findLeft_49 4 rfl ?_
  refine b_aload_n X d_M_findLeft_51 0 rfl rfl ?_
  refine b_iload_n X d_M_findLeft_52 1 rfl rfl ?_
  refine b_iload_n X d_M_findLeft_53 2 rfl rfl ?_
  refine b_dV X cf_M_sizeOf ci_M_sizeOf ml_M_77 (ct_M_sizeOf_ G σ x1 x2 n54 e54 h54) 0 rfl rfl (As := [.int x1, .int x2]) (rest := [.int x4]) rfl (Nat.le_of_ble_eq_true rfl) ⟨Nat.le_of_ble_eq_true rfl, Nat.le_of_ble_eq_true rfl⟩ ⟨Nat.le_of_ble_eq_true rfl, Nat.le_of_ble_eq_true rfl⟩ rfl rfl d_M_findLeft_54 ?_
  refine b_icmp_ge X (tgt := 133) d_M_findLeft_57 (by decide) (fun h => absurd h c57) (fun _ => ?_)
  refine b_aload_n X d_M_findLeft_60 0 rfl rfl ?_
  refine b_iload_n X d_M_findLeft_61 1 rfl rfl ?_
  refine b_iload_n X d_M_findLeft_62 2 rfl rfl ?_
  refine b_iload X d_M_findLeft_63 4 rfl ?_
  refine b_dV X cf_M_symbolAt ci_M_symbolAt ml_M_81 (ct_M_symbolAt_ G σ x1 x2 x4 n65 e65 h65) 0 rfl rfl (As := [.int x1, .int x2, .int x4]) (rest := []) rfl (Nat.le_of_ble_eq_true rfl) ⟨Nat.le_of_ble_eq_true rfl, Nat.le_of_ble_eq_true rfl⟩ ⟨Nat.le_of_ble_eq_true rfl, Nat.le_of_ble_eq_true rfl⟩ rfl rfl d_M_findLeft_65 ?_
  refine b_istore X (lv' := [(0, .ref (xa σ 0)), (1, .int x1), (2, .int x2), (3, .int x3), (4, .int x4), (5, .int (xi σ 3 n65))]) d_M_findLeft_68 (by decide) [1, 2, 3, 4, 5, 0] rfl ?_
  refine b_iload_n X d_M_findLeft_70 3 rfl rfl ?_
  refine b_if_eq X (tgt := 97) d_M_findLeft_71 (by decide) (fun _ => ?_) (fun h => absurd c71 h)
  refine b_iload_n X d_M_findLeft_97 3 rfl rfl ?_
  refine b_if_eq X (tgt := 125) d_M_findLeft_98 (by decide) (fun h => absurd h c98) (fun _ => ?_)
  refine b_iload X d_M_findLeft_101 5 rfl ?_
  refine b_dS X cf_M_isRule ci_M_isRule ml_M_85 (ct_M_isRule G σ (xi σ 3 n65)) (As := [.int (xi σ 3 n65)]) (rest := []) rfl (Nat.le_of_ble_eq_true rfl) ⟨Nat.le_of_ble_eq_true rfl, Nat.le_of_ble_eq_true rfl⟩ ⟨Nat.le_of_ble_eq_true rfl, Nat.le_of_ble_eq_true rfl⟩ rfl rfl d_M_findLeft_103 ?_
  refine b_if_eq X (tgt := 125) d_M_findLeft_106 (by decide) (fun h => absurd h c106) (fun _ => ?_)
  refine b_aload_n X d_M_findLeft_109 0 rfl rfl ?_
  refine b_get X fl_M_19 0 rfl (v := .ref (xa σ 4)) rfl d_M_findLeft_110 ?_
  refine b_iconst X (v := (-1)) d_M_findLeft_113 (by decide) ?_
  refine b_iload X d_M_findLeft_114 5 rfl ?_
  refine b_isub X d_M_findLeft_116 ?_
  refine b_zald X 4 rfl (by decide) n117 e117 h117 d_M_findLeft_117 ?_
  refine b_if_eq X (tgt := 125) d_M_findLeft_118 (by decide) (fun h => absurd h c118) (fun _ => ?_)
  refine b_iconst X (v := 1) d_M_findLeft_121 (by decide) ?_
  refine b_goto X (tgt := 126) d_M_findLeft_122 (by decide) ?_
  refine b_istore_n X (lv' := [(0, .ref (xa σ 0)), (1, .int x1), (2, .int x2), (3, .int 1), (4, .int x4), (5, .int (xi σ 3 n65))]) d_M_findLeft_126 rfl (by decide) [1, 2, 3, 0, 4, 5] rfl ?_
  refine b_iinc X (lv' := [(0, .ref (xa σ 0)), (1, .int x1), (2, .int x2), (3, .int 1), (4, .int (x4 + 1)), (5, .int (xi σ 3 n65))]) d_M_findLeft_127 4 rfl (v := (x4 + 1)) rfl (by decide) [1, 2, 3, 4, 0, 5] rfl ?_
  refine b_goto X (tgt := 49) d_M_findLeft_130 (by decide) ?_
  refine Lb.pick (lv' := [(0, .ref (xa σ 0)), (1, .int x1), (2, .int x2), (3, .int 1), (4, .int (x4 + 1))]) [0, 1, 2, 3, 4] rfl ?_
  exact k
theorem sg_M_findLeft_49_fftt49 {K : KX} {G : GG} {w0 : va_W} {Q : State → Prop} (X : Bd K G w0 "FirstTreesModel" c_M_findLeft 6 none rm_M_findLeft) (σ : St) (x1 : Int32) (x2 : Int32) (x3 : Int32) (x4 : Int32) (n54 : Nat) (n65 : Nat) (e54 : ((8 * x1) + x2) = nI n54) (h54 : n54 < 128) (c57 : ¬ (xi σ 2 n54) ≤ x4) (e65 : (((64 * x1) + (8 * x2)) + x4) = nI n65) (h65 : n65 < 1024) (c71 : ¬ x3 = 0) (c79 : (b2i ((xi σ 3 n65) < 0)) = 0) (c98 : x3 = 0) (k : Lb K G w0 Q 6 49 [(0, .ref (xa σ 0)), (1, .int x1), (2, .int x2), (3, .int 0), (4, .int (x4 + 1))] [] (WM G σ) 0 0) : Lb K G w0 Q 6 49 [(0, .ref (xa σ 0)), (1, .int x1), (2, .int x2), (3, .int x3), (4, .int x4)] [] (WM G σ) 0 0 := by
  refine b_iload X d_M_findLeft_49 4 rfl ?_
  refine b_aload_n X d_M_findLeft_51 0 rfl rfl ?_
  refine b_iload_n X d_M_findLeft_52 1 rfl rfl ?_
  refine b_iload_n X d_M_findLeft_53 2 rfl rfl ?_
  refine b_dV X cf_M_sizeOf ci_M_sizeOf ml_M_77 (ct_M_sizeOf_ G σ x1 x2 n54 e54 h54) 0 rfl rfl (As := [.int x1, .int x2]) (rest := [.int x4]) rfl (Nat.le_of_ble_eq_true rfl) ⟨Nat.le_of_ble_eq_true rfl, Nat.le_of_ble_eq_true rfl⟩ ⟨Nat.le_of_ble_eq_true rfl, Nat.le_of_ble_eq_true rfl⟩ rfl rfl d_M_findLeft_54 ?_
  refine b_icmp_ge X (tgt := 133) d_M_findLeft_57 (by decide) (fun h => absurd h c57) (fun _ => ?_)
  refine b_aload_n X d_M_findLeft_60 0 rfl rfl ?_
  refine b_iload_n X d_M_findLeft_61 1 rfl rfl ?_
  refine b_iload_n X d_M_findLeft_62 2 rfl rfl ?_
  refine b_iload X d_M_findLeft_63 4 rfl ?_
  refine b_dV X cf_M_symbolAt ci_M_symbolAt ml_M_81 (ct_M_symbolAt_ G σ x1 x2 x4 n65 e65 h65) 0 rfl rfl (As := [.int x1, .int x2, .int x4]) (rest := []) rfl (Nat.le_of_ble_eq_true rfl) ⟨Nat.le_of_ble_eq_true rfl, Nat.le_of_ble_eq_true rfl⟩ ⟨Nat.le_of_ble_eq_true rfl, Nat.le_of_ble_eq_true rfl⟩ rfl rfl d_M_findLeft_65 ?_
  refine b_istore X (lv' := [(0, .ref (xa σ 0)), (1, .int x1), (2, .int x2), (3, .int x3), (4, .int x4), (5, .int (xi σ 3 n65))]) d_M_findLeft_68 (by decide) [1, 2, 3, 4, 5, 0] rfl ?_
  refine b_iload_n X d_M_findLeft_70 3 rfl rfl ?_
  refine b_if_eq X (tgt := 97) d_M_findLeft_71 (by decide) (fun h => absurd h c71) (fun _ => ?_)
  refine b_iload X d_M_findLeft_74 5 rfl ?_
  refine b_dS X cf_M_isRule ci_M_isRule ml_M_85 (ct_M_isRule G σ (xi σ 3 n65)) (As := [.int (xi σ 3 n65)]) (rest := []) rfl (Nat.le_of_ble_eq_true rfl) ⟨Nat.le_of_ble_eq_true rfl, Nat.le_of_ble_eq_true rfl⟩ ⟨Nat.le_of_ble_eq_true rfl, Nat.le_of_ble_eq_true rfl⟩ rfl rfl d_M_findLeft_76 ?_
  refine b_if_eq X (tgt := 97) d_M_findLeft_79 (by decide) (fun _ => ?_) (fun h => absurd c79 h)
  refine b_iload_n X d_M_findLeft_97 3 rfl rfl ?_
  refine b_if_eq X (tgt := 125) d_M_findLeft_98 (by decide) (fun _ => ?_) (fun h => absurd c98 h)
  refine b_iconst X (v := 0) d_M_findLeft_125 (by decide) ?_
  refine b_istore_n X (lv' := [(0, .ref (xa σ 0)), (1, .int x1), (2, .int x2), (3, .int 0), (4, .int x4), (5, .int (xi σ 3 n65))]) d_M_findLeft_126 rfl (by decide) [1, 2, 3, 0, 4, 5] rfl ?_
  refine b_iinc X (lv' := [(0, .ref (xa σ 0)), (1, .int x1), (2, .int x2), (3, .int 0), (4, .int (x4 + 1)), (5, .int (xi σ 3 n65))]) d_M_findLeft_127 4 rfl (v := (x4 + 1)) rfl (by decide) [1, 2, 3, 4, 0, 5] rfl ?_
  refine b_goto X (tgt := 49) d_M_findLeft_130 (by decide) ?_
  refine Lb.pick (lv' := [(0, .ref (xa σ 0)), (1, .int x1), (2, .int x2), (3, .int 0), (4, .int (x4 + 1))]) [0, 1, 2, 3, 4] rfl ?_
  exact k
theorem sg_M_findLeft_49_fftft49 {K : KX} {G : GG} {w0 : va_W} {Q : State → Prop} (X : Bd K G w0 "FirstTreesModel" c_M_findLeft 6 none rm_M_findLeft) (σ : St) (x1 : Int32) (x2 : Int32) (x3 : Int32) (x4 : Int32) (n54 : Nat) (n65 : Nat) (e54 : ((8 * x1) + x2) = nI n54) (h54 : n54 < 128) (c57 : ¬ (xi σ 2 n54) ≤ x4) (e65 : (((64 * x1) + (8 * x2)) + x4) = nI n65) (h65 : n65 < 1024) (c71 : ¬ x3 = 0) (c79 : (b2i ((xi σ 3 n65) < 0)) = 0) (c98 : ¬ x3 = 0) (c106 : (b2i ((xi σ 3 n65) < 0)) = 0) (k : Lb K G w0 Q 6 49 [(0, .ref (xa σ 0)), (1, .int x1), (2, .int x2), (3, .int 0), (4, .int (x4 + 1))] [] (WM G σ) 0 0) : Lb K G w0 Q 6 49 [(0, .ref (xa σ 0)), (1, .int x1), (2, .int x2), (3, .int x3), (4, .int x4)] [] (WM G σ) 0 0 := by
  refine b_iload X d_M_findLeft_49 4 rfl ?_
  refine b_aload_n X d_M_findLeft_51 0 rfl rfl ?_
  refine b_iload_n X d_M_findLeft_52 1 rfl rfl ?_
  refine b_iload_n X d_M_findLeft_53 2 rfl rfl ?_
  refine b_dV X cf_M_sizeOf ci_M_sizeOf ml_M_77 (ct_M_sizeOf_ G σ x1 x2 n54 e54 h54) 0 rfl rfl (As := [.int x1, .int x2]) (rest := [.int x4]) rfl (Nat.le_of_ble_eq_true rfl) ⟨Nat.le_of_ble_eq_true rfl, Nat.le_of_ble_eq_true rfl⟩ ⟨Nat.le_of_ble_eq_true rfl, Nat.le_of_ble_eq_true rfl⟩ rfl rfl d_M_findLeft_54 ?_
  refine b_icmp_ge X (tgt := 133) d_M_findLeft_57 (by decide) (fun h => absurd h c57) (fun _ => ?_)
  refine b_aload_n X d_M_findLeft_60 0 rfl rfl ?_
  refine b_iload_n X d_M_findLeft_61 1 rfl rfl ?_
  refine b_iload_n X d_M_findLeft_62 2 rfl rfl ?_
  refine b_iload X d_M_findLeft_63 4 rfl ?_
  refine b_dV X cf_M_symbolAt ci_M_symbolAt ml_M_81 (ct_M_symbolAt_ G σ x1 x2 x4 n65 e65 h65) 0 rfl rfl (As := [.int x1, .int x2, .int x4]) (rest := []) rfl (Nat.le_of_ble_eq_true rfl) ⟨Nat.le_of_ble_eq_true rfl, Nat.le_of_ble_eq_true rfl⟩ ⟨Nat.le_of_ble_eq_true rfl, Nat.le_of_ble_eq_true rfl⟩ rfl rfl d_M_findLeft_65 ?_
  refine b_istore X (lv' := [(0, .ref (xa σ 0)), (1, .int x1), (2, .int x2), (3, .int x3), (4, .int x4), (5, .int (xi σ 3 n65))]) d_M_findLeft_68 (by decide) [1, 2, 3, 4, 5, 0] rfl ?_
  refine b_iload_n X d_M_findLeft_70 3 rfl rfl ?_
  refine b_if_eq X (tgt := 97) d_M_findLeft_71 (by decide) (fun h => absurd h c71) (fun _ => ?_)
  refine b_iload X d_M_findLeft_74 5 rfl ?_
  refine b_dS X cf_M_isRule ci_M_isRule ml_M_85 (ct_M_isRule G σ (xi σ 3 n65)) (As := [.int (xi σ 3 n65)]) (rest := []) rfl (Nat.le_of_ble_eq_true rfl) ⟨Nat.le_of_ble_eq_true rfl, Nat.le_of_ble_eq_true rfl⟩ ⟨Nat.le_of_ble_eq_true rfl, Nat.le_of_ble_eq_true rfl⟩ rfl rfl d_M_findLeft_76 ?_
  refine b_if_eq X (tgt := 97) d_M_findLeft_79 (by decide) (fun _ => ?_) (fun h => absurd c79 h)
  refine b_iload_n X d_M_findLeft_97 3 rfl rfl ?_
  refine b_if_eq X (tgt := 125) d_M_findLeft_98 (by decide) (fun h => absurd h c98) (fun _ => ?_)
  refine b_iload X d_M_findLeft_101 5 rfl ?_
  refine b_dS X cf_M_isRule ci_M_isRule ml_M_85 (ct_M_isRule G σ (xi σ 3 n65)) (As := [.int (xi σ 3 n65)]) (rest := []) rfl (Nat.le_of_ble_eq_true rfl) ⟨Nat.le_of_ble_eq_true rfl, Nat.le_of_ble_eq_true rfl⟩ ⟨Nat.le_of_ble_eq_true rfl, Nat.le_of_ble_eq_true rfl⟩ rfl rfl d_M_findLeft_103 ?_
  refine b_if_eq X (tgt := 125) d_M_findLeft_106 (by decide) (fun _ => ?_) (fun h => absurd c106 h)
  refine b_iconst X (v := 0) d_M_findLeft_125 (by decide) ?_
  refine b_istore_n X (lv' := [(0, .ref (xa σ 0)), (1, .int x1), (2, .int x2), (3, .int 0), (4, .int x4), (5, .int (xi σ 3 n65))]) d_M_findLeft_126 rfl (by decide) [1, 2, 3, 0, 4, 5] rfl ?_
  refine b_iinc X (lv' := [(0, .ref (xa σ 0)), (1, .int x1), (2, .int x2), (3, .int 0), (4, .int (x4 + 1)), (5, .int (xi σ 3 n65))]) d_M_findLeft_127 4 rfl (v := (x4 + 1)) rfl (by decide) [1, 2, 3, 4, 0, 5] rfl ?_
  refine b_goto X (tgt := 49) d_M_findLeft_130 (by decide) ?_
  refine Lb.pick (lv' := [(0, .ref (xa σ 0)), (1, .int x1), (2, .int x2), (3, .int 0), (4, .int (x4 + 1))]) [0, 1, 2, 3, 4] rfl ?_
  exact k
theorem sg_M_findLeft_49_fftfft49 {K : KX} {G : GG} {w0 : va_W} {Q : State → Prop} (X : Bd K G w0 "FirstTreesModel" c_M_findLeft 6 none rm_M_findLeft) (σ : St) (x1 : Int32) (x2 : Int32) (x3 : Int32) (x4 : Int32) (n54 : Nat) (n65 : Nat) (n117 : Nat) (e54 : ((8 * x1) + x2) = nI n54) (h54 : n54 < 128) (c57 : ¬ (xi σ 2 n54) ≤ x4) (e65 : (((64 * x1) + (8 * x2)) + x4) = nI n65) (h65 : n65 < 1024) (c71 : ¬ x3 = 0) (c79 : (b2i ((xi σ 3 n65) < 0)) = 0) (c98 : ¬ x3 = 0) (c106 : ¬ (b2i ((xi σ 3 n65) < 0)) = 0) (e117 : ((-1) - (xi σ 3 n65)) = nI n117) (h117 : n117 < 16) (c118 : (xi σ 4 n117) = 0) (k : Lb K G w0 Q 6 49 [(0, .ref (xa σ 0)), (1, .int x1), (2, .int x2), (3, .int 0), (4, .int (x4 + 1))] [] (WM G σ) 0 0) : Lb K G w0 Q 6 49 [(0, .ref (xa σ 0)), (1, .int x1), (2, .int x2), (3, .int x3), (4, .int x4)] [] (WM G σ) 0 0 := by
  refine b_iload X d_M_findLeft_49 4 rfl ?_
  refine b_aload_n X d_M_findLeft_51 0 rfl rfl ?_
  refine b_iload_n X d_M_findLeft_52 1 rfl rfl ?_
  refine b_iload_n X d_M_findLeft_53 2 rfl rfl ?_
  refine b_dV X cf_M_sizeOf ci_M_sizeOf ml_M_77 (ct_M_sizeOf_ G σ x1 x2 n54 e54 h54) 0 rfl rfl (As := [.int x1, .int x2]) (rest := [.int x4]) rfl (Nat.le_of_ble_eq_true rfl) ⟨Nat.le_of_ble_eq_true rfl, Nat.le_of_ble_eq_true rfl⟩ ⟨Nat.le_of_ble_eq_true rfl, Nat.le_of_ble_eq_true rfl⟩ rfl rfl d_M_findLeft_54 ?_
  refine b_icmp_ge X (tgt := 133) d_M_findLeft_57 (by decide) (fun h => absurd h c57) (fun _ => ?_)
  refine b_aload_n X d_M_findLeft_60 0 rfl rfl ?_
  refine b_iload_n X d_M_findLeft_61 1 rfl rfl ?_
  refine b_iload_n X d_M_findLeft_62 2 rfl rfl ?_
  refine b_iload X d_M_findLeft_63 4 rfl ?_
  refine b_dV X cf_M_symbolAt ci_M_symbolAt ml_M_81 (ct_M_symbolAt_ G σ x1 x2 x4 n65 e65 h65) 0 rfl rfl (As := [.int x1, .int x2, .int x4]) (rest := []) rfl (Nat.le_of_ble_eq_true rfl) ⟨Nat.le_of_ble_eq_true rfl, Nat.le_of_ble_eq_true rfl⟩ ⟨Nat.le_of_ble_eq_true rfl, Nat.le_of_ble_eq_true rfl⟩ rfl rfl d_M_findLeft_65 ?_
  refine b_istore X (lv' := [(0, .ref (xa σ 0)), (1, .int x1), (2, .int x2), (3, .int x3), (4, .int x4), (5, .int (xi σ 3 n65))]) d_M_findLeft_68 (by decide) [1, 2, 3, 4, 5, 0] rfl ?_
  refine b_iload_n X d_M_findLeft_70 3 rfl rfl ?_
  refine b_if_eq X (tgt := 97) d_M_findLeft_71 (by decide) (fun h => absurd h c71) (fun _ => ?_)
  refine b_iload X d_M_findLeft_74 5 rfl ?_
  refine b_dS X cf_M_isRule ci_M_isRule ml_M_85 (ct_M_isRule G σ (xi σ 3 n65)) (As := [.int (xi σ 3 n65)]) (rest := []) rfl (Nat.le_of_ble_eq_true rfl) ⟨Nat.le_of_ble_eq_true rfl, Nat.le_of_ble_eq_true rfl⟩ ⟨Nat.le_of_ble_eq_true rfl, Nat.le_of_ble_eq_true rfl⟩ rfl rfl d_M_findLeft_76 ?_
  refine b_if_eq X (tgt := 97) d_M_findLeft_79 (by decide) (fun _ => ?_) (fun h => absurd c79 h)
  refine b_iload_n X d_M_findLeft_97 3 rfl rfl ?_
  refine b_if_eq X (tgt := 125) d_M_findLeft_98 (by decide) (fun h => absurd h c98) (fun _ => ?_)
  refine b_iload X d_M_findLeft_101 5 rfl ?_
  refine b_dS X cf_M_isRule ci_M_isRule ml_M_85 (ct_M_isRule G σ (xi σ 3 n65)) (As := [.int (xi σ 3 n65)]) (rest := []) rfl (Nat.le_of_ble_eq_true rfl) ⟨Nat.le_of_ble_eq_true rfl, Nat.le_of_ble_eq_true rfl⟩ ⟨Nat.le_of_ble_eq_true rfl, Nat.le_of_ble_eq_true rfl⟩ rfl rfl d_M_findLeft_103 ?_
  refine b_if_eq X (tgt := 125) d_M_findLeft_106 (by decide) (fun h => absurd h c106) (fun _ => ?_)
  refine b_aload_n X d_M_findLeft_109 0 rfl rfl ?_
  refine b_get X fl_M_19 0 rfl (v := .ref (xa σ 4)) rfl d_M_findLeft_110 ?_
  refine b_iconst X (v := (-1)) d_M_findLeft_113 (by decide) ?_
  refine b_iload X d_M_findLeft_114 5 rfl ?_
  refine b_isub X d_M_findLeft_116 ?_
  refine b_zald X 4 rfl (by decide) n117 e117 h117 d_M_findLeft_117 ?_
  refine b_if_eq X (tgt := 125) d_M_findLeft_118 (by decide) (fun _ => ?_) (fun h => absurd c118 h)
  refine b_iconst X (v := 0) d_M_findLeft_125 (by decide) ?_
  refine b_istore_n X (lv' := [(0, .ref (xa σ 0)), (1, .int x1), (2, .int x2), (3, .int 0), (4, .int x4), (5, .int (xi σ 3 n65))]) d_M_findLeft_126 rfl (by decide) [1, 2, 3, 0, 4, 5] rfl ?_
  refine b_iinc X (lv' := [(0, .ref (xa σ 0)), (1, .int x1), (2, .int x2), (3, .int 0), (4, .int (x4 + 1)), (5, .int (xi σ 3 n65))]) d_M_findLeft_127 4 rfl (v := (x4 + 1)) rfl (by decide) [1, 2, 3, 4, 0, 5] rfl ?_
  refine b_goto X (tgt := 49) d_M_findLeft_130 (by decide) ?_
  refine Lb.pick (lv' := [(0, .ref (xa σ 0)), (1, .int x1), (2, .int x2), (3, .int 0), (4, .int (x4 + 1))]) [0, 1, 2, 3, 4] rfl ?_
  exact k
theorem sg_M_findLeft_49_fftfff49 {K : KX} {G : GG} {w0 : va_W} {Q : State → Prop} (X : Bd K G w0 "FirstTreesModel" c_M_findLeft 6 none rm_M_findLeft) (σ : St) (x1 : Int32) (x2 : Int32) (x3 : Int32) (x4 : Int32) (n54 : Nat) (n65 : Nat) (n117 : Nat) (e54 : ((8 * x1) + x2) = nI n54) (h54 : n54 < 128) (c57 : ¬ (xi σ 2 n54) ≤ x4) (e65 : (((64 * x1) + (8 * x2)) + x4) = nI n65) (h65 : n65 < 1024) (c71 : ¬ x3 = 0) (c79 : (b2i ((xi σ 3 n65) < 0)) = 0) (c98 : ¬ x3 = 0) (c106 : ¬ (b2i ((xi σ 3 n65) < 0)) = 0) (e117 : ((-1) - (xi σ 3 n65)) = nI n117) (h117 : n117 < 16) (c118 : ¬ (xi σ 4 n117) = 0) (k : Lb K G w0 Q 6 49 [(0, .ref (xa σ 0)), (1, .int x1), (2, .int x2), (3, .int 1), (4, .int (x4 + 1))] [] (WM G σ) 0 0) : Lb K G w0 Q 6 49 [(0, .ref (xa σ 0)), (1, .int x1), (2, .int x2), (3, .int x3), (4, .int x4)] [] (WM G σ) 0 0 := by
  refine b_iload X d_M_findLeft_49 4 rfl ?_
  refine b_aload_n X d_M_findLeft_51 0 rfl rfl ?_
  refine b_iload_n X d_M_findLeft_52 1 rfl rfl ?_
  refine b_iload_n X d_M_findLeft_53 2 rfl rfl ?_
  refine b_dV X cf_M_sizeOf ci_M_sizeOf ml_M_77 (ct_M_sizeOf_ G σ x1 x2 n54 e54 h54) 0 rfl rfl (As := [.int x1, .int x2]) (rest := [.int x4]) rfl (Nat.le_of_ble_eq_true rfl) ⟨Nat.le_of_ble_eq_true rfl, Nat.le_of_ble_eq_true rfl⟩ ⟨Nat.le_of_ble_eq_true rfl, Nat.le_of_ble_eq_true rfl⟩ rfl rfl d_M_findLeft_54 ?_
  refine b_icmp_ge X (tgt := 133) d_M_findLeft_57 (by decide) (fun h => absurd h c57) (fun _ => ?_)
  refine b_aload_n X d_M_findLeft_60 0 rfl rfl ?_
  refine b_iload_n X d_M_findLeft_61 1 rfl rfl ?_
  refine b_iload_n X d_M_findLeft_62 2 rfl rfl ?_
  refine b_iload X d_M_findLeft_63 4 rfl ?_
  refine b_dV X cf_M_symbolAt ci_M_symbolAt ml_M_81 (ct_M_symbolAt_ G σ x1 x2 x4 n65 e65 h65) 0 rfl rfl (As := [.int x1, .int x2, .int x4]) (rest := []) rfl (Nat.le_of_ble_eq_true rfl) ⟨Nat.le_of_ble_eq_true rfl, Nat.le_of_ble_eq_true rfl⟩ ⟨Nat.le_of_ble_eq_true rfl, Nat.le_of_ble_eq_true rfl⟩ rfl rfl d_M_findLeft_65 ?_
  refine b_istore X (lv' := [(0, .ref (xa σ 0)), (1, .int x1), (2, .int x2), (3, .int x3), (4, .int x4), (5, .int (xi σ 3 n65))]) d_M_findLeft_68 (by decide) [1, 2, 3, 4, 5, 0] rfl ?_
  refine b_iload_n X d_M_findLeft_70 3 rfl rfl ?_
  refine b_if_eq X (tgt := 97) d_M_findLeft_71 (by decide) (fun h => absurd h c71) (fun _ => ?_)
  refine b_iload X d_M_findLeft_74 5 rfl ?_
  refine b_dS X cf_M_isRule ci_M_isRule ml_M_85 (ct_M_isRule G σ (xi σ 3 n65)) (As := [.int (xi σ 3 n65)]) (rest := []) rfl (Nat.le_of_ble_eq_true rfl) ⟨Nat.le_of_ble_eq_true rfl, Nat.le_of_ble_eq_true rfl⟩ ⟨Nat.le_of_ble_eq_true rfl, Nat.le_of_ble_eq_true rfl⟩ rfl rfl d_M_findLeft_76 ?_
  refine b_if_eq X (tgt := 97) d_M_findLeft_79 (by decide) (fun _ => ?_) (fun h => absurd c79 h)
  refine b_iload_n X d_M_findLeft_97 3 rfl rfl ?_
  refine b_if_eq X (tgt := 125) d_M_findLeft_98 (by decide) (fun h => absurd h c98) (fun _ => ?_)
  refine b_iload X d_M_findLeft_101 5 rfl ?_
  refine b_dS X cf_M_isRule ci_M_isRule ml_M_85 (ct_M_isRule G σ (xi σ 3 n65)) (As := [.int (xi σ 3 n65)]) (rest := []) rfl (Nat.le_of_ble_eq_true rfl) ⟨Nat.le_of_ble_eq_true rfl, Nat.le_of_ble_eq_true rfl⟩ ⟨Nat.le_of_ble_eq_true rfl, Nat.le_of_ble_eq_true rfl⟩ rfl rfl d_M_findLeft_103 ?_
  refine b_if_eq X (tgt := 125) d_M_findLeft_106 (by decide) (fun h => absurd h c106) (fun _ => ?_)
  refine b_aload_n X d_M_findLeft_109 0 rfl rfl ?_
  refine b_get X fl_M_19 0 rfl (v := .ref (xa σ 4)) rfl d_M_findLeft_110 ?_
  refine b_iconst X (v := (-1)) d_M_findLeft_113 (by decide) ?_
  refine b_iload X d_M_findLeft_114 5 rfl ?_
  refine b_isub X d_M_findLeft_116 ?_
  refine b_zald X 4 rfl (by decide) n117 e117 h117 d_M_findLeft_117 ?_
  refine b_if_eq X (tgt := 125) d_M_findLeft_118 (by decide) (fun h => absurd h c118) (fun _ => ?_)
  refine b_iconst X (v := 1) d_M_findLeft_121 (by decide) ?_
  refine b_goto X (tgt := 126) d_M_findLeft_122 (by decide) ?_
  refine b_istore_n X (lv' := [(0, .ref (xa σ 0)), (1, .int x1), (2, .int x2), (3, .int 1), (4, .int x4), (5, .int (xi σ 3 n65))]) d_M_findLeft_126 rfl (by decide) [1, 2, 3, 0, 4, 5] rfl ?_
  refine b_iinc X (lv' := [(0, .ref (xa σ 0)), (1, .int x1), (2, .int x2), (3, .int 1), (4, .int (x4 + 1)), (5, .int (xi σ 3 n65))]) d_M_findLeft_127 4 rfl (v := (x4 + 1)) rfl (by decide) [1, 2, 3, 4, 0, 5] rfl ?_
  refine b_goto X (tgt := 49) d_M_findLeft_130 (by decide) ?_
  refine Lb.pick (lv' := [(0, .ref (xa σ 0)), (1, .int x1), (2, .int x2), (3, .int 1), (4, .int (x4 + 1))]) [0, 1, 2, 3, 4] rfl ?_
  exact k
theorem sg_M_findLeft_49_ffft49 {K : KX} {G : GG} {w0 : va_W} {Q : State → Prop} (X : Bd K G w0 "FirstTreesModel" c_M_findLeft 6 none rm_M_findLeft) (σ : St) (x1 : Int32) (x2 : Int32) (x3 : Int32) (x4 : Int32) (n54 : Nat) (n65 : Nat) (n96 : Nat) (e54 : ((8 * x1) + x2) = nI n54) (h54 : n54 < 128) (c57 : ¬ (xi σ 2 n54) ≤ x4) (e65 : (((64 * x1) + (8 * x2)) + x4) = nI n65) (h65 : n65 < 1024) (c71 : ¬ x3 = 0) (c79 : ¬ (b2i ((xi σ 3 n65) < 0)) = 0) (e96 : (((16 * x1) - 1) - (xi σ 3 n65)) = nI n96) (h96 : n96 < 256) (c98 : x3 = 0) (k : Lb K G w0 Q 6 49 [(0, .ref (xa σ 0)), (1, .int x1), (2, .int x2), (3, .int 0), (4, .int (x4 + 1))] [] (WM G (wi σ 5 n96 1)) 0 0) : Lb K G w0 Q 6 49 [(0, .ref (xa σ 0)), (1, .int x1), (2, .int x2), (3, .int x3), (4, .int x4)] [] (WM G σ) 0 0 := by
  refine b_iload X d_M_findLeft_49 4 rfl ?_
  refine b_aload_n X d_M_findLeft_51 0 rfl rfl ?_
  refine b_iload_n X d_M_findLeft_52 1 rfl rfl ?_
  refine b_iload_n X d_M_findLeft_53 2 rfl rfl ?_
  refine b_dV X cf_M_sizeOf ci_M_sizeOf ml_M_77 (ct_M_sizeOf_ G σ x1 x2 n54 e54 h54) 0 rfl rfl (As := [.int x1, .int x2]) (rest := [.int x4]) rfl (Nat.le_of_ble_eq_true rfl) ⟨Nat.le_of_ble_eq_true rfl, Nat.le_of_ble_eq_true rfl⟩ ⟨Nat.le_of_ble_eq_true rfl, Nat.le_of_ble_eq_true rfl⟩ rfl rfl d_M_findLeft_54 ?_
  refine b_icmp_ge X (tgt := 133) d_M_findLeft_57 (by decide) (fun h => absurd h c57) (fun _ => ?_)
  refine b_aload_n X d_M_findLeft_60 0 rfl rfl ?_
  refine b_iload_n X d_M_findLeft_61 1 rfl rfl ?_
  refine b_iload_n X d_M_findLeft_62 2 rfl rfl ?_
  refine b_iload X d_M_findLeft_63 4 rfl ?_
  refine b_dV X cf_M_symbolAt ci_M_symbolAt ml_M_81 (ct_M_symbolAt_ G σ x1 x2 x4 n65 e65 h65) 0 rfl rfl (As := [.int x1, .int x2, .int x4]) (rest := []) rfl (Nat.le_of_ble_eq_true rfl) ⟨Nat.le_of_ble_eq_true rfl, Nat.le_of_ble_eq_true rfl⟩ ⟨Nat.le_of_ble_eq_true rfl, Nat.le_of_ble_eq_true rfl⟩ rfl rfl d_M_findLeft_65 ?_
  refine b_istore X (lv' := [(0, .ref (xa σ 0)), (1, .int x1), (2, .int x2), (3, .int x3), (4, .int x4), (5, .int (xi σ 3 n65))]) d_M_findLeft_68 (by decide) [1, 2, 3, 4, 5, 0] rfl ?_
  refine b_iload_n X d_M_findLeft_70 3 rfl rfl ?_
  refine b_if_eq X (tgt := 97) d_M_findLeft_71 (by decide) (fun h => absurd h c71) (fun _ => ?_)
  refine b_iload X d_M_findLeft_74 5 rfl ?_
  refine b_dS X cf_M_isRule ci_M_isRule ml_M_85 (ct_M_isRule G σ (xi σ 3 n65)) (As := [.int (xi σ 3 n65)]) (rest := []) rfl (Nat.le_of_ble_eq_true rfl) ⟨Nat.le_of_ble_eq_true rfl, Nat.le_of_ble_eq_true rfl⟩ ⟨Nat.le_of_ble_eq_true rfl, Nat.le_of_ble_eq_true rfl⟩ rfl rfl d_M_findLeft_76 ?_
  refine b_if_eq X (tgt := 97) d_M_findLeft_79 (by decide) (fun h => absurd h c79) (fun _ => ?_)
  refine b_aload_n X d_M_findLeft_82 0 rfl rfl ?_
  refine b_get X fl_M_23 0 rfl (v := .ref (xa σ 5)) rfl d_M_findLeft_83 ?_
  refine b_bipush X (v := 16) d_M_findLeft_86 (by decide) ?_
  refine b_iload_n X d_M_findLeft_88 1 rfl rfl ?_
  refine b_imul X d_M_findLeft_89 ?_
  refine b_iconst X (v := 1) d_M_findLeft_90 (by decide) ?_
  refine b_isub X d_M_findLeft_91 ?_
  refine b_iload X d_M_findLeft_92 5 rfl ?_
  refine b_isub X d_M_findLeft_94 ?_
  refine b_iconst X (v := 1) d_M_findLeft_95 (by decide) ?_
  refine b_zast X 5 rfl (by decide) n96 e96 h96 (by decide) (uWM_5 G σ n96 1) d_M_findLeft_96 ?_
  refine b_iload_n X d_M_findLeft_97 3 rfl rfl ?_
  refine b_if_eq X (tgt := 125) d_M_findLeft_98 (by decide) (fun _ => ?_) (fun h => absurd c98 h)
  refine b_iconst X (v := 0) d_M_findLeft_125 (by decide) ?_
  refine b_istore_n X (lv' := [(0, .ref (xa σ 0)), (1, .int x1), (2, .int x2), (3, .int 0), (4, .int x4), (5, .int (xi σ 3 n65))]) d_M_findLeft_126 rfl (by decide) [1, 2, 3, 0, 4, 5] rfl ?_
  refine b_iinc X (lv' := [(0, .ref (xa σ 0)), (1, .int x1), (2, .int x2), (3, .int 0), (4, .int (x4 + 1)), (5, .int (xi σ 3 n65))]) d_M_findLeft_127 4 rfl (v := (x4 + 1)) rfl (by decide) [1, 2, 3, 4, 0, 5] rfl ?_
  refine b_goto X (tgt := 49) d_M_findLeft_130 (by decide) ?_
  refine Lb.pick (lv' := [(0, .ref (xa σ 0)), (1, .int x1), (2, .int x2), (3, .int 0), (4, .int (x4 + 1))]) [0, 1, 2, 3, 4] rfl ?_
  exact k
theorem sg_M_findLeft_49_fffft49 {K : KX} {G : GG} {w0 : va_W} {Q : State → Prop} (X : Bd K G w0 "FirstTreesModel" c_M_findLeft 6 none rm_M_findLeft) (σ : St) (x1 : Int32) (x2 : Int32) (x3 : Int32) (x4 : Int32) (n54 : Nat) (n65 : Nat) (n96 : Nat) (e54 : ((8 * x1) + x2) = nI n54) (h54 : n54 < 128) (c57 : ¬ (xi σ 2 n54) ≤ x4) (e65 : (((64 * x1) + (8 * x2)) + x4) = nI n65) (h65 : n65 < 1024) (c71 : ¬ x3 = 0) (c79 : ¬ (b2i ((xi σ 3 n65) < 0)) = 0) (e96 : (((16 * x1) - 1) - (xi σ 3 n65)) = nI n96) (h96 : n96 < 256) (c98 : ¬ x3 = 0) (c106 : (b2i ((xi σ 3 n65) < 0)) = 0) (k : Lb K G w0 Q 6 49 [(0, .ref (xa σ 0)), (1, .int x1), (2, .int x2), (3, .int 0), (4, .int (x4 + 1))] [] (WM G (wi σ 5 n96 1)) 0 0) : Lb K G w0 Q 6 49 [(0, .ref (xa σ 0)), (1, .int x1), (2, .int x2), (3, .int x3), (4, .int x4)] [] (WM G σ) 0 0 := by
  refine b_iload X d_M_findLeft_49 4 rfl ?_
  refine b_aload_n X d_M_findLeft_51 0 rfl rfl ?_
  refine b_iload_n X d_M_findLeft_52 1 rfl rfl ?_
  refine b_iload_n X d_M_findLeft_53 2 rfl rfl ?_
  refine b_dV X cf_M_sizeOf ci_M_sizeOf ml_M_77 (ct_M_sizeOf_ G σ x1 x2 n54 e54 h54) 0 rfl rfl (As := [.int x1, .int x2]) (rest := [.int x4]) rfl (Nat.le_of_ble_eq_true rfl) ⟨Nat.le_of_ble_eq_true rfl, Nat.le_of_ble_eq_true rfl⟩ ⟨Nat.le_of_ble_eq_true rfl, Nat.le_of_ble_eq_true rfl⟩ rfl rfl d_M_findLeft_54 ?_
  refine b_icmp_ge X (tgt := 133) d_M_findLeft_57 (by decide) (fun h => absurd h c57) (fun _ => ?_)
  refine b_aload_n X d_M_findLeft_60 0 rfl rfl ?_
  refine b_iload_n X d_M_findLeft_61 1 rfl rfl ?_
  refine b_iload_n X d_M_findLeft_62 2 rfl rfl ?_
  refine b_iload X d_M_findLeft_63 4 rfl ?_
  refine b_dV X cf_M_symbolAt ci_M_symbolAt ml_M_81 (ct_M_symbolAt_ G σ x1 x2 x4 n65 e65 h65) 0 rfl rfl (As := [.int x1, .int x2, .int x4]) (rest := []) rfl (Nat.le_of_ble_eq_true rfl) ⟨Nat.le_of_ble_eq_true rfl, Nat.le_of_ble_eq_true rfl⟩ ⟨Nat.le_of_ble_eq_true rfl, Nat.le_of_ble_eq_true rfl⟩ rfl rfl d_M_findLeft_65 ?_
  refine b_istore X (lv' := [(0, .ref (xa σ 0)), (1, .int x1), (2, .int x2), (3, .int x3), (4, .int x4), (5, .int (xi σ 3 n65))]) d_M_findLeft_68 (by decide) [1, 2, 3, 4, 5, 0] rfl ?_
  refine b_iload_n X d_M_findLeft_70 3 rfl rfl ?_
  refine b_if_eq X (tgt := 97) d_M_findLeft_71 (by decide) (fun h => absurd h c71) (fun _ => ?_)
  refine b_iload X d_M_findLeft_74 5 rfl ?_
  refine b_dS X cf_M_isRule ci_M_isRule ml_M_85 (ct_M_isRule G σ (xi σ 3 n65)) (As := [.int (xi σ 3 n65)]) (rest := []) rfl (Nat.le_of_ble_eq_true rfl) ⟨Nat.le_of_ble_eq_true rfl, Nat.le_of_ble_eq_true rfl⟩ ⟨Nat.le_of_ble_eq_true rfl, Nat.le_of_ble_eq_true rfl⟩ rfl rfl d_M_findLeft_76 ?_
  refine b_if_eq X (tgt := 97) d_M_findLeft_79 (by decide) (fun h => absurd h c79) (fun _ => ?_)
  refine b_aload_n X d_M_findLeft_82 0 rfl rfl ?_
  refine b_get X fl_M_23 0 rfl (v := .ref (xa σ 5)) rfl d_M_findLeft_83 ?_
  refine b_bipush X (v := 16) d_M_findLeft_86 (by decide) ?_
  refine b_iload_n X d_M_findLeft_88 1 rfl rfl ?_
  refine b_imul X d_M_findLeft_89 ?_
  refine b_iconst X (v := 1) d_M_findLeft_90 (by decide) ?_
  refine b_isub X d_M_findLeft_91 ?_
  refine b_iload X d_M_findLeft_92 5 rfl ?_
  refine b_isub X d_M_findLeft_94 ?_
  refine b_iconst X (v := 1) d_M_findLeft_95 (by decide) ?_
  refine b_zast X 5 rfl (by decide) n96 e96 h96 (by decide) (uWM_5 G σ n96 1) d_M_findLeft_96 ?_
  refine b_iload_n X d_M_findLeft_97 3 rfl rfl ?_
  refine b_if_eq X (tgt := 125) d_M_findLeft_98 (by decide) (fun h => absurd h c98) (fun _ => ?_)
  refine b_iload X d_M_findLeft_101 5 rfl ?_
  refine b_dS X cf_M_isRule ci_M_isRule ml_M_85 (ct_M_isRule G (wi σ 5 n96 1) (xi σ 3 n65)) (As := [.int (xi σ 3 n65)]) (rest := []) rfl (Nat.le_of_ble_eq_true rfl) ⟨Nat.le_of_ble_eq_true rfl, Nat.le_of_ble_eq_true rfl⟩ ⟨Nat.le_of_ble_eq_true rfl, Nat.le_of_ble_eq_true rfl⟩ rfl rfl d_M_findLeft_103 ?_
  refine b_if_eq X (tgt := 125) d_M_findLeft_106 (by decide) (fun _ => ?_) (fun h => absurd c106 h)
  refine b_iconst X (v := 0) d_M_findLeft_125 (by decide) ?_
  refine b_istore_n X (lv' := [(0, .ref (xa σ 0)), (1, .int x1), (2, .int x2), (3, .int 0), (4, .int x4), (5, .int (xi σ 3 n65))]) d_M_findLeft_126 rfl (by decide) [1, 2, 3, 0, 4, 5] rfl ?_
  refine b_iinc X (lv' := [(0, .ref (xa σ 0)), (1, .int x1), (2, .int x2), (3, .int 0), (4, .int (x4 + 1)), (5, .int (xi σ 3 n65))]) d_M_findLeft_127 4 rfl (v := (x4 + 1)) rfl (by decide) [1, 2, 3, 4, 0, 5] rfl ?_
  refine b_goto X (tgt := 49) d_M_findLeft_130 (by decide) ?_
  refine Lb.pick (lv' := [(0, .ref (xa σ 0)), (1, .int x1), (2, .int x2), (3, .int 0), (4, .int (x4 + 1))]) [0, 1, 2, 3, 4] rfl ?_
  exact k
theorem sg_M_findLeft_49_ffffft49 {K : KX} {G : GG} {w0 : va_W} {Q : State → Prop} (X : Bd K G w0 "FirstTreesModel" c_M_findLeft 6 none rm_M_findLeft) (σ : St) (x1 : Int32) (x2 : Int32) (x3 : Int32) (x4 : Int32) (n54 : Nat) (n65 : Nat) (n96 : Nat) (n117 : Nat) (e54 : ((8 * x1) + x2) = nI n54) (h54 : n54 < 128) (c57 : ¬ (xi σ 2 n54) ≤ x4) (e65 : (((64 * x1) + (8 * x2)) + x4) = nI n65) (h65 : n65 < 1024) (c71 : ¬ x3 = 0) (c79 : ¬ (b2i ((xi σ 3 n65) < 0)) = 0) (e96 : (((16 * x1) - 1) - (xi σ 3 n65)) = nI n96) (h96 : n96 < 256) (c98 : ¬ x3 = 0) (c106 : ¬ (b2i ((xi σ 3 n65) < 0)) = 0) (e117 : ((-1) - (xi σ 3 n65)) = nI n117) (h117 : n117 < 16) (c118 : (xi σ 4 n117) = 0) (k : Lb K G w0 Q 6 49 [(0, .ref (xa σ 0)), (1, .int x1), (2, .int x2), (3, .int 0), (4, .int (x4 + 1))] [] (WM G (wi σ 5 n96 1)) 0 0) : Lb K G w0 Q 6 49 [(0, .ref (xa σ 0)), (1, .int x1), (2, .int x2), (3, .int x3), (4, .int x4)] [] (WM G σ) 0 0 := by
  refine b_iload X d_M_findLeft_49 4 rfl ?_
  refine b_aload_n X d_M_findLeft_51 0 rfl rfl ?_
  refine b_iload_n X d_M_findLeft_52 1 rfl rfl ?_
  refine b_iload_n X d_M_findLeft_53 2 rfl rfl ?_
  refine b_dV X cf_M_sizeOf ci_M_sizeOf ml_M_77 (ct_M_sizeOf_ G σ x1 x2 n54 e54 h54) 0 rfl rfl (As := [.int x1, .int x2]) (rest := [.int x4]) rfl (Nat.le_of_ble_eq_true rfl) ⟨Nat.le_of_ble_eq_true rfl, Nat.le_of_ble_eq_true rfl⟩ ⟨Nat.le_of_ble_eq_true rfl, Nat.le_of_ble_eq_true rfl⟩ rfl rfl d_M_findLeft_54 ?_
  refine b_icmp_ge X (tgt := 133) d_M_findLeft_57 (by decide) (fun h => absurd h c57) (fun _ => ?_)
  refine b_aload_n X d_M_findLeft_60 0 rfl rfl ?_
  refine b_iload_n X d_M_findLeft_61 1 rfl rfl ?_
  refine b_iload_n X d_M_findLeft_62 2 rfl rfl ?_
  refine b_iload X d_M_findLeft_63 4 rfl ?_
  refine b_dV X cf_M_symbolAt ci_M_symbolAt ml_M_81 (ct_M_symbolAt_ G σ x1 x2 x4 n65 e65 h65) 0 rfl rfl (As := [.int x1, .int x2, .int x4]) (rest := []) rfl (Nat.le_of_ble_eq_true rfl) ⟨Nat.le_of_ble_eq_true rfl, Nat.le_of_ble_eq_true rfl⟩ ⟨Nat.le_of_ble_eq_true rfl, Nat.le_of_ble_eq_true rfl⟩ rfl rfl d_M_findLeft_65 ?_
  refine b_istore X (lv' := [(0, .ref (xa σ 0)), (1, .int x1), (2, .int x2), (3, .int x3), (4, .int x4), (5, .int (xi σ 3 n65))]) d_M_findLeft_68 (by decide) [1, 2, 3, 4, 5, 0] rfl ?_
  refine b_iload_n X d_M_findLeft_70 3 rfl rfl ?_
  refine b_if_eq X (tgt := 97) d_M_findLeft_71 (by decide) (fun h => absurd h c71) (fun _ => ?_)
  refine b_iload X d_M_findLeft_74 5 rfl ?_
  refine b_dS X cf_M_isRule ci_M_isRule ml_M_85 (ct_M_isRule G σ (xi σ 3 n65)) (As := [.int (xi σ 3 n65)]) (rest := []) rfl (Nat.le_of_ble_eq_true rfl) ⟨Nat.le_of_ble_eq_true rfl, Nat.le_of_ble_eq_true rfl⟩ ⟨Nat.le_of_ble_eq_true rfl, Nat.le_of_ble_eq_true rfl⟩ rfl rfl d_M_findLeft_76 ?_
  refine b_if_eq X (tgt := 97) d_M_findLeft_79 (by decide) (fun h => absurd h c79) (fun _ => ?_)
  refine b_aload_n X d_M_findLeft_82 0 rfl rfl ?_
  refine b_get X fl_M_23 0 rfl (v := .ref (xa σ 5)) rfl d_M_findLeft_83 ?_
  refine b_bipush X (v := 16) d_M_findLeft_86 (by decide) ?_
  refine b_iload_n X d_M_findLeft_88 1 rfl rfl ?_
  refine b_imul X d_M_findLeft_89 ?_
  refine b_iconst X (v := 1) d_M_findLeft_90 (by decide) ?_
  refine b_isub X d_M_findLeft_91 ?_
  refine b_iload X d_M_findLeft_92 5 rfl ?_
  refine b_isub X d_M_findLeft_94 ?_
  refine b_iconst X (v := 1) d_M_findLeft_95 (by decide) ?_
  refine b_zast X 5 rfl (by decide) n96 e96 h96 (by decide) (uWM_5 G σ n96 1) d_M_findLeft_96 ?_
  refine b_iload_n X d_M_findLeft_97 3 rfl rfl ?_
  refine b_if_eq X (tgt := 125) d_M_findLeft_98 (by decide) (fun h => absurd h c98) (fun _ => ?_)
  refine b_iload X d_M_findLeft_101 5 rfl ?_
  refine b_dS X cf_M_isRule ci_M_isRule ml_M_85 (ct_M_isRule G (wi σ 5 n96 1) (xi σ 3 n65)) (As := [.int (xi σ 3 n65)]) (rest := []) rfl (Nat.le_of_ble_eq_true rfl) ⟨Nat.le_of_ble_eq_true rfl, Nat.le_of_ble_eq_true rfl⟩ ⟨Nat.le_of_ble_eq_true rfl, Nat.le_of_ble_eq_true rfl⟩ rfl rfl d_M_findLeft_103 ?_
  refine b_if_eq X (tgt := 125) d_M_findLeft_106 (by decide) (fun h => absurd h c106) (fun _ => ?_)
  refine b_aload_n X d_M_findLeft_109 0 rfl rfl ?_
  refine b_get X fl_M_19 0 rfl (v := .ref (xa σ 4)) rfl d_M_findLeft_110 ?_
  refine b_iconst X (v := (-1)) d_M_findLeft_113 (by decide) ?_
  refine b_iload X d_M_findLeft_114 5 rfl ?_
  refine b_isub X d_M_findLeft_116 ?_
  refine b_zald X 4 rfl (by decide) n117 e117 h117 d_M_findLeft_117 ?_
  refine b_if_eq X (tgt := 125) d_M_findLeft_118 (by decide) (fun _ => ?_) (fun h => absurd c118 h)
  refine b_iconst X (v := 0) d_M_findLeft_125 (by decide) ?_
  refine b_istore_n X (lv' := [(0, .ref (xa σ 0)), (1, .int x1), (2, .int x2), (3, .int 0), (4, .int x4), (5, .int (xi σ 3 n65))]) d_M_findLeft_126 rfl (by decide) [1, 2, 3, 0, 4, 5] rfl ?_
  refine b_iinc X (lv' := [(0, .ref (xa σ 0)), (1, .int x1), (2, .int x2), (3, .int 0), (4, .int (x4 + 1)), (5, .int (xi σ 3 n65))]) d_M_findLeft_127 4 rfl (v := (x4 + 1)) rfl (by decide) [1, 2, 3, 4, 0, 5] rfl ?_
  refine b_goto X (tgt := 49) d_M_findLeft_130 (by decide) ?_
  refine Lb.pick (lv' := [(0, .ref (xa σ 0)), (1, .int x1), (2, .int x2), (3, .int 0), (4, .int (x4 + 1))]) [0, 1, 2, 3, 4] rfl ?_
  exact k
theorem sg_M_findLeft_49_ffffff49 {K : KX} {G : GG} {w0 : va_W} {Q : State → Prop} (X : Bd K G w0 "FirstTreesModel" c_M_findLeft 6 none rm_M_findLeft) (σ : St) (x1 : Int32) (x2 : Int32) (x3 : Int32) (x4 : Int32) (n54 : Nat) (n65 : Nat) (n96 : Nat) (n117 : Nat) (e54 : ((8 * x1) + x2) = nI n54) (h54 : n54 < 128) (c57 : ¬ (xi σ 2 n54) ≤ x4) (e65 : (((64 * x1) + (8 * x2)) + x4) = nI n65) (h65 : n65 < 1024) (c71 : ¬ x3 = 0) (c79 : ¬ (b2i ((xi σ 3 n65) < 0)) = 0) (e96 : (((16 * x1) - 1) - (xi σ 3 n65)) = nI n96) (h96 : n96 < 256) (c98 : ¬ x3 = 0) (c106 : ¬ (b2i ((xi σ 3 n65) < 0)) = 0) (e117 : ((-1) - (xi σ 3 n65)) = nI n117) (h117 : n117 < 16) (c118 : ¬ (xi σ 4 n117) = 0) (k : Lb K G w0 Q 6 49 [(0, .ref (xa σ 0)), (1, .int x1), (2, .int x2), (3, .int 1), (4, .int (x4 + 1))] [] (WM G (wi σ 5 n96 1)) 0 0) : Lb K G w0 Q 6 49 [(0, .ref (xa σ 0)), (1, .int x1), (2, .int x2), (3, .int x3), (4, .int x4)] [] (WM G σ) 0 0 := by
  refine b_iload X d_M_findLeft_49 4 rfl ?_
  refine b_aload_n X d_M_findLeft_51 0 rfl rfl ?_
  refine b_iload_n X d_M_findLeft_52 1 rfl rfl ?_
  refine b_iload_n X d_M_findLeft_53 2 rfl rfl ?_
  refine b_dV X cf_M_sizeOf ci_M_sizeOf ml_M_77 (ct_M_sizeOf_ G σ x1 x2 n54 e54 h54) 0 rfl rfl (As := [.int x1, .int x2]) (rest := [.int x4]) rfl (Nat.le_of_ble_eq_true rfl) ⟨Nat.le_of_ble_eq_true rfl, Nat.le_of_ble_eq_true rfl⟩ ⟨Nat.le_of_ble_eq_true rfl, Nat.le_of_ble_eq_true rfl⟩ rfl rfl d_M_findLeft_54 ?_
  refine b_icmp_ge X (tgt := 133) d_M_findLeft_57 (by decide) (fun h => absurd h c57) (fun _ => ?_)
  refine b_aload_n X d_M_findLeft_60 0 rfl rfl ?_
  refine b_iload_n X d_M_findLeft_61 1 rfl rfl ?_
  refine b_iload_n X d_M_findLeft_62 2 rfl rfl ?_
  refine b_iload X d_M_findLeft_63 4 rfl ?_
  refine b_dV X cf_M_symbolAt ci_M_symbolAt ml_M_81 (ct_M_symbolAt_ G σ x1 x2 x4 n65 e65 h65) 0 rfl rfl (As := [.int x1, .int x2, .int x4]) (rest := []) rfl (Nat.le_of_ble_eq_true rfl) ⟨Nat.le_of_ble_eq_true rfl, Nat.le_of_ble_eq_true rfl⟩ ⟨Nat.le_of_ble_eq_true rfl, Nat.le_of_ble_eq_true rfl⟩ rfl rfl d_M_findLeft_65 ?_
  refine b_istore X (lv' := [(0, .ref (xa σ 0)), (1, .int x1), (2, .int x2), (3, .int x3), (4, .int x4), (5, .int (xi σ 3 n65))]) d_M_findLeft_68 (by decide) [1, 2, 3, 4, 5, 0] rfl ?_
  refine b_iload_n X d_M_findLeft_70 3 rfl rfl ?_
  refine b_if_eq X (tgt := 97) d_M_findLeft_71 (by decide) (fun h => absurd h c71) (fun _ => ?_)
  refine b_iload X d_M_findLeft_74 5 rfl ?_
  refine b_dS X cf_M_isRule ci_M_isRule ml_M_85 (ct_M_isRule G σ (xi σ 3 n65)) (As := [.int (xi σ 3 n65)]) (rest := []) rfl (Nat.le_of_ble_eq_true rfl) ⟨Nat.le_of_ble_eq_true rfl, Nat.le_of_ble_eq_true rfl⟩ ⟨Nat.le_of_ble_eq_true rfl, Nat.le_of_ble_eq_true rfl⟩ rfl rfl d_M_findLeft_76 ?_
  refine b_if_eq X (tgt := 97) d_M_findLeft_79 (by decide) (fun h => absurd h c79) (fun _ => ?_)
  refine b_aload_n X d_M_findLeft_82 0 rfl rfl ?_
  refine b_get X fl_M_23 0 rfl (v := .ref (xa σ 5)) rfl d_M_findLeft_83 ?_
  refine b_bipush X (v := 16) d_M_findLeft_86 (by decide) ?_
  refine b_iload_n X d_M_findLeft_88 1 rfl rfl ?_
  refine b_imul X d_M_findLeft_89 ?_
  refine b_iconst X (v := 1) d_M_findLeft_90 (by decide) ?_
  refine b_isub X d_M_findLeft_91 ?_
  refine b_iload X d_M_findLeft_92 5 rfl ?_
  refine b_isub X d_M_findLeft_94 ?_
  refine b_iconst X (v := 1) d_M_findLeft_95 (by decide) ?_
  refine b_zast X 5 rfl (by decide) n96 e96 h96 (by decide) (uWM_5 G σ n96 1) d_M_findLeft_96 ?_
  refine b_iload_n X d_M_findLeft_97 3 rfl rfl ?_
  refine b_if_eq X (tgt := 125) d_M_findLeft_98 (by decide) (fun h => absurd h c98) (fun _ => ?_)
  refine b_iload X d_M_findLeft_101 5 rfl ?_
  refine b_dS X cf_M_isRule ci_M_isRule ml_M_85 (ct_M_isRule G (wi σ 5 n96 1) (xi σ 3 n65)) (As := [.int (xi σ 3 n65)]) (rest := []) rfl (Nat.le_of_ble_eq_true rfl) ⟨Nat.le_of_ble_eq_true rfl, Nat.le_of_ble_eq_true rfl⟩ ⟨Nat.le_of_ble_eq_true rfl, Nat.le_of_ble_eq_true rfl⟩ rfl rfl d_M_findLeft_103 ?_
  refine b_if_eq X (tgt := 125) d_M_findLeft_106 (by decide) (fun h => absurd h c106) (fun _ => ?_)
  refine b_aload_n X d_M_findLeft_109 0 rfl rfl ?_
  refine b_get X fl_M_19 0 rfl (v := .ref (xa σ 4)) rfl d_M_findLeft_110 ?_
  refine b_iconst X (v := (-1)) d_M_findLeft_113 (by decide) ?_
  refine b_iload X d_M_findLeft_114 5 rfl ?_
  refine b_isub X d_M_findLeft_116 ?_
  refine b_zald X 4 rfl (by decide) n117 e117 h117 d_M_findLeft_117 ?_
  refine b_if_eq X (tgt := 125) d_M_findLeft_118 (by decide) (fun h => absurd h c118) (fun _ => ?_)
  refine b_iconst X (v := 1) d_M_findLeft_121 (by decide) ?_
  refine b_goto X (tgt := 126) d_M_findLeft_122 (by decide) ?_
  refine b_istore_n X (lv' := [(0, .ref (xa σ 0)), (1, .int x1), (2, .int x2), (3, .int 1), (4, .int x4), (5, .int (xi σ 3 n65))]) d_M_findLeft_126 rfl (by decide) [1, 2, 3, 0, 4, 5] rfl ?_
  refine b_iinc X (lv' := [(0, .ref (xa σ 0)), (1, .int x1), (2, .int x2), (3, .int 1), (4, .int (x4 + 1)), (5, .int (xi σ 3 n65))]) d_M_findLeft_127 4 rfl (v := (x4 + 1)) rfl (by decide) [1, 2, 3, 4, 0, 5] rfl ?_
  refine b_goto X (tgt := 49) d_M_findLeft_130 (by decide) ?_
  refine Lb.pick (lv' := [(0, .ref (xa σ 0)), (1, .int x1), (2, .int x2), (3, .int 1), (4, .int (x4 + 1))]) [0, 1, 2, 3, 4] rfl ?_
  exact k
theorem sg_M_findLeft_147_tr {K : KX} {G : GG} {w0 : va_W} {post : PostT} (X : Bd K G w0 "FirstTreesModel" c_M_findLeft 6 none rm_M_findLeft) (σ : St) (x1 : Int32)  (c152 : (xi σ 0 1) ≤ x1) (hp : post none (WM G σ)) : Lb K G w0 (Qe K G w0 post rm_M_findLeft) 6 147 [(0, .ref (xa σ 0)), (1, .int x1)] [] (WM G σ) 0 0 := by
  refine b_iload_n X d_M_findLeft_147 1 rfl rfl ?_
  refine b_aload_n X d_M_findLeft_148 0 rfl rfl ?_
  refine b_get X fl_M_89 0 rfl (v := .int (xi σ 0 1)) rfl d_M_findLeft_149 ?_
  refine b_icmp_ge X (tgt := 251) d_M_findLeft_152 (by decide) (fun _ => ?_) (fun h => absurd c152 h)
  exact b_vret X d_M_findLeft_251 hp
theorem sg_M_findLeft_147_f157 {K : KX} {G : GG} {w0 : va_W} {Q : State → Prop} (X : Bd K G w0 "FirstTreesModel" c_M_findLeft 6 none rm_M_findLeft) (σ : St) (x1 : Int32)  (c152 : ¬ (xi σ 0 1) ≤ x1) (k : Lb K G w0 Q 6 157 [(0, .ref (xa σ 0)), (1, .int x1), (2, .int 0)] [] (WM G σ) 0 0) : Lb K G w0 Q 6 147 [(0, .ref (xa σ 0)), (1, .int x1)] [] (WM G σ) 0 0 := by
  refine b_iload_n X d_M_findLeft_147 1 rfl rfl ?_
  refine b_aload_n X d_M_findLeft_148 0 rfl rfl ?_
  refine b_get X fl_M_89 0 rfl (v := .int (xi σ 0 1)) rfl d_M_findLeft_149 ?_
  refine b_icmp_ge X (tgt := 251) d_M_findLeft_152 (by decide) (fun h => absurd h c152) (fun _ => ?_)
  refine b_iconst X (v := 0) d_M_findLeft_155 (by decide) ?_
  refine b_istore_n X (lv' := [(0, .ref (xa σ 0)), (1, .int x1), (2, .int 0)]) d_M_findLeft_156 rfl (by decide) [1, 2, 0] rfl ?_
  exact k
theorem sg_M_findLeft_157_t147 {K : KX} {G : GG} {w0 : va_W} {Q : State → Prop} (X : Bd K G w0 "FirstTreesModel" c_M_findLeft 6 none rm_M_findLeft) (σ : St) (x1 : Int32) (x2 : Int32)  (c162 : (xi σ 0 1) ≤ x2) (k : Lb K G w0 Q 6 147 [(0, .ref (xa σ 0)), (1, .int (x1 + 1))] [] (WM G σ) 0 0) : Lb K G w0 Q 6 157 [(0, .ref (xa σ 0)), (1, .int x1), (2, .int x2)] [] (WM G σ) 0 0 := by
  refine b_iload_n X d_M_findLeft_157 2 rfl rfl ?_
  refine b_aload_n X d_M_findLeft_158 0 rfl rfl ?_
  refine b_get X fl_M_89 0 rfl (v := .int (xi σ 0 1)) rfl d_M_findLeft_159 ?_
  refine b_icmp_ge X (tgt := 245) d_M_findLeft_162 (by decide) (fun _ => ?_) (fun h => absurd c162 h)
  refine b_iinc X (lv' := [(0, .ref (xa σ 0)), (1, .int (x1 + 1)), (2, .int x2)]) d_M_findLeft_245 1 rfl (v := (x1 + 1)) rfl (by decide) [1, 0, 2] rfl ?_
  refine b_goto X (tgt := 147) d_M_findLeft_248 (by decide) ?_
  refine Lb.pick (lv' := [(0, .ref (xa σ 0)), (1, .int (x1 + 1))]) [0, 1] rfl ?_
  exact k
theorem sg_M_findLeft_157_f167 {K : KX} {G : GG} {w0 : va_W} {Q : State → Prop} (X : Bd K G w0 "FirstTreesModel" c_M_findLeft 6 none rm_M_findLeft) (σ : St) (x1 : Int32) (x2 : Int32)  (c162 : ¬ (xi σ 0 1) ≤ x2) (k : Lb K G w0 Q 6 167 [(0, .ref (xa σ 0)), (1, .int x1), (2, .int x2), (3, .int 0)] [] (WM G σ) 0 0) : Lb K G w0 Q 6 157 [(0, .ref (xa σ 0)), (1, .int x1), (2, .int x2)] [] (WM G σ) 0 0 := by
  refine b_iload_n X d_M_findLeft_157 2 rfl rfl ?_
  refine b_aload_n X d_M_findLeft_158 0 rfl rfl ?_
  refine b_get X fl_M_89 0 rfl (v := .int (xi σ 0 1)) rfl d_M_findLeft_159 ?_
  refine b_icmp_ge X (tgt := 245) d_M_findLeft_162 (by decide) (fun h => absurd h c162) (fun _ => ?_)
  refine b_iconst X (v := 0) d_M_findLeft_165 (by decide) ?_
  refine b_istore_n X (lv' := [(0, .ref (xa σ 0)), (1, .int x1), (2, .int x2), (3, .int 0)]) d_M_findLeft_166 rfl (by decide) [1, 2, 3, 0] rfl ?_
  exact k
theorem sg_M_findLeft_167_t157 {K : KX} {G : GG} {w0 : va_W} {Q : State → Prop} (X : Bd K G w0 "FirstTreesModel" c_M_findLeft 6 none rm_M_findLeft) (σ : St) (x1 : Int32) (x2 : Int32) (x3 : Int32)  (c172 : (xi σ 0 1) ≤ x3) (k : Lb K G w0 Q 6 157 [(0, .ref (xa σ 0)), (1, .int x1), (2, .int (x2 + 1))] [] (WM G σ) 0 0) : Lb K G w0 Q 6 167 [(0, .ref (xa σ 0)), (1, .int x1), (2, .int x2), (3, .int x3)] [] (WM G σ) 0 0 := by
  refine b_iload_n X d_M_findLeft_167 3 rfl rfl ?_
  refine b_aload_n X d_M_findLeft_168 0 rfl rfl ?_
  refine b_get X fl_M_89 0 rfl (v := .int (xi σ 0 1)) rfl d_M_findLeft_169 ?_
  refine b_icmp_ge X (tgt := 239) d_M_findLeft_172 (by decide) (fun _ => ?_) (fun h => absurd c172 h)
  refine b_iinc X (lv' := [(0, .ref (xa σ 0)), (1, .int x1), (2, .int (x2 + 1)), (3, .int x3)]) d_M_findLeft_239 2 rfl (v := (x2 + 1)) rfl (by decide) [1, 2, 0, 3] rfl ?_
  refine b_goto X (tgt := 157) d_M_findLeft_242 (by decide) ?_
  refine Lb.pick (lv' := [(0, .ref (xa σ 0)), (1, .int x1), (2, .int (x2 + 1))]) [0, 1, 2] rfl ?_
  exact k
theorem sg_M_findLeft_167_ft167 {K : KX} {G : GG} {w0 : va_W} {Q : State → Prop} (X : Bd K G w0 "FirstTreesModel" c_M_findLeft 6 none rm_M_findLeft) (σ : St) (x1 : Int32) (x2 : Int32) (x3 : Int32) (n195 : Nat) (c172 : ¬ (xi σ 0 1) ≤ x3) (e195 : ((16 * x2) + x3) = nI n195) (h195 : n195 < 256) (c196 : ¬ (xi σ 5 n195) = 0) (k : Lb K G w0 Q 6 167 [(0, .ref (xa σ 0)), (1, .int x1), (2, .int x2), (3, .int (x3 + 1))] [] (WM G (wi σ 5 n195 1)) 0 0) : Lb K G w0 Q 6 167 [(0, .ref (xa σ 0)), (1, .int x1), (2, .int x2), (3, .int x3)] [] (WM G σ) 0 0 := by
  refine b_iload_n X d_M_findLeft_167 3 rfl rfl ?_
  refine b_aload_n X d_M_findLeft_168 0 rfl rfl ?_
  refine b_get X fl_M_89 0 rfl (v := .int (xi σ 0 1)) rfl d_M_findLeft_169 ?_
  refine b_icmp_ge X (tgt := 239) d_M_findLeft_172 (by decide) (fun h => absurd h c172) (fun _ => ?_)
  refine b_aload_n X d_M_findLeft_175 0 rfl rfl ?_
  refine b_get X fl_M_23 0 rfl (v := .ref (xa σ 5)) rfl d_M_findLeft_176 ?_
  refine b_bipush X (v := 16) d_M_findLeft_179 (by decide) ?_
  refine b_iload_n X d_M_findLeft_181 2 rfl rfl ?_
  refine b_imul X d_M_findLeft_182 ?_
  refine b_iload_n X d_M_findLeft_183 3 rfl rfl ?_
  refine b_iadd X d_M_findLeft_184 ?_
  refine b_aload_n X d_M_findLeft_185 0 rfl rfl ?_
  refine b_get X fl_M_23 0 rfl (v := .ref (xa σ 5)) rfl d_M_findLeft_186 ?_
  refine b_bipush X (v := 16) d_M_findLeft_189 (by decide) ?_
  refine b_iload_n X d_M_findLeft_191 2 rfl rfl ?_
  refine b_imul X d_M_findLeft_192 ?_
  refine b_iload_n X d_M_findLeft_193 3 rfl rfl ?_
  refine b_iadd X d_M_findLeft_194 ?_
  refine b_zald X 5 rfl (by decide) n195 e195 h195 d_M_findLeft_195 ?_
  refine b_if_ne X (tgt := 227) d_M_findLeft_196 (by decide) (fun _ => ?_) (fun h => absurd h c196)
  refine b_iconst X (v := 1) d_M_findLeft_227 (by decide) ?_
  refine b_goto X (tgt := 232) d_M_findLeft_228 (by decide) ?_
  refine b_zast X 5 rfl (by decide) n195 e195 h195 (by decide) (uWM_5 G σ n195 1) d_M_findLeft_232 ?_
  refine b_iinc X (lv' := [(0, .ref (xa σ 0)), (1, .int x1), (2, .int x2), (3, .int (x3 + 1))]) d_M_findLeft_233 3 rfl (v := (x3 + 1)) rfl (by decide) [1, 2, 3, 0] rfl ?_
  refine b_goto X (tgt := 167) d_M_findLeft_236 (by decide) ?_
  exact k
theorem sg_M_findLeft_167_fft167 {K : KX} {G : GG} {w0 : va_W} {Q : State → Prop} (X : Bd K G w0 "FirstTreesModel" c_M_findLeft 6 none rm_M_findLeft) (σ : St) (x1 : Int32) (x2 : Int32) (x3 : Int32) (n195 : Nat) (n209 : Nat) (c172 : ¬ (xi σ 0 1) ≤ x3) (e195 : ((16 * x2) + x3) = nI n195) (h195 : n195 < 256) (c196 : (xi σ 5 n195) = 0) (e209 : ((16 * x2) + x1) = nI n209) (h209 : n209 < 256) (c210 : (xi σ 5 n209) = 0) (k : Lb K G w0 Q 6 167 [(0, .ref (xa σ 0)), (1, .int x1), (2, .int x2), (3, .int (x3 + 1))] [] (WM G (wi σ 5 n195 0)) 0 0) : Lb K G w0 Q 6 167 [(0, .ref (xa σ 0)), (1, .int x1), (2, .int x2), (3, .int x3)] [] (WM G σ) 0 0 := by
  refine b_iload_n X d_M_findLeft_167 3 rfl rfl ?_
  refine b_aload_n X d_M_findLeft_168 0 rfl rfl ?_
  refine b_get X fl_M_89 0 rfl (v := .int (xi σ 0 1)) rfl d_M_findLeft_169 ?_
  refine b_icmp_ge X (tgt := 239) d_M_findLeft_172 (by decide) (fun h => absurd h c172) (fun _ => ?_)
  refine b_aload_n X d_M_findLeft_175 0 rfl rfl ?_
  refine b_get X fl_M_23 0 rfl (v := .ref (xa σ 5)) rfl d_M_findLeft_176 ?_
  refine b_bipush X (v := 16) d_M_findLeft_179 (by decide) ?_
  refine b_iload_n X d_M_findLeft_181 2 rfl rfl ?_
  refine b_imul X d_M_findLeft_182 ?_
  refine b_iload_n X d_M_findLeft_183 3 rfl rfl ?_
  refine b_iadd X d_M_findLeft_184 ?_
  refine b_aload_n X d_M_findLeft_185 0 rfl rfl ?_
  refine b_get X fl_M_23 0 rfl (v := .ref (xa σ 5)) rfl d_M_findLeft_186 ?_
  refine b_bipush X (v := 16) d_M_findLeft_189 (by decide) ?_
  refine b_iload_n X d_M_findLeft_191 2 rfl rfl ?_
  refine b_imul X d_M_findLeft_192 ?_
  refine b_iload_n X d_M_findLeft_193 3 rfl rfl ?_
  refine b_iadd X d_M_findLeft_194 ?_
  refine b_zald X 5 rfl (by decide) n195 e195 h195 d_M_findLeft_195 ?_
  refine b_if_ne X (tgt := 227) d_M_findLeft_196 (by decide) (fun h => absurd c196 h) (fun _ => ?_)
  refine b_aload_n X d_M_findLeft_199 0 rfl rfl ?_
  refine b_get X fl_M_23 0 rfl (v := .ref (xa σ 5)) rfl d_M_findLeft_200 ?_
  refine b_bipush X (v := 16) d_M_findLeft_203 (by decide) ?_
  refine b_iload_n X d_M_findLeft_205 2 rfl rfl ?_
  refine b_imul X d_M_findLeft_206 ?_
  refine b_iload_n X d_M_findLeft_207 1 rfl rfl ?_
  refine b_iadd X d_M_findLeft_208 ?_
  refine b_zald X 5 rfl (by decide) n209 e209 h209 d_M_findLeft_209 ?_
  refine b_if_eq X (tgt := 231) d_M_findLeft_210 (by decide) (fun _ => ?_) (fun h => absurd c210 h)
  refine b_iconst X (v := 0) d_M_findLeft_231 (by decide) ?_
  refine b_zast X 5 rfl (by decide) n195 e195 h195 (by decide) (uWM_5 G σ n195 0) d_M_findLeft_232 ?_
  refine b_iinc X (lv' := [(0, .ref (xa σ 0)), (1, .int x1), (2, .int x2), (3, .int (x3 + 1))]) d_M_findLeft_233 3 rfl (v := (x3 + 1)) rfl (by decide) [1, 2, 3, 0] rfl ?_
  refine b_goto X (tgt := 167) d_M_findLeft_236 (by decide) ?_
  exact k
theorem sg_M_findLeft_167_ffft167 {K : KX} {G : GG} {w0 : va_W} {Q : State → Prop} (X : Bd K G w0 "FirstTreesModel" c_M_findLeft 6 none rm_M_findLeft) (σ : St) (x1 : Int32) (x2 : Int32) (x3 : Int32) (n195 : Nat) (n209 : Nat) (n223 : Nat) (c172 : ¬ (xi σ 0 1) ≤ x3) (e195 : ((16 * x2) + x3) = nI n195) (h195 : n195 < 256) (c196 : (xi σ 5 n195) = 0) (e209 : ((16 * x2) + x1) = nI n209) (h209 : n209 < 256) (c210 : ¬ (xi σ 5 n209) = 0) (e223 : ((16 * x1) + x3) = nI n223) (h223 : n223 < 256) (c224 : (xi σ 5 n223) = 0) (k : Lb K G w0 Q 6 167 [(0, .ref (xa σ 0)), (1, .int x1), (2, .int x2), (3, .int (x3 + 1))] [] (WM G (wi σ 5 n195 0)) 0 0) : Lb K G w0 Q 6 167 [(0, .ref (xa σ 0)), (1, .int x1), (2, .int x2), (3, .int x3)] [] (WM G σ) 0 0 := by
  refine b_iload_n X d_M_findLeft_167 3 rfl rfl ?_
  refine b_aload_n X d_M_findLeft_168 0 rfl rfl ?_
  refine b_get X fl_M_89 0 rfl (v := .int (xi σ 0 1)) rfl d_M_findLeft_169 ?_
  refine b_icmp_ge X (tgt := 239) d_M_findLeft_172 (by decide) (fun h => absurd h c172) (fun _ => ?_)
  refine b_aload_n X d_M_findLeft_175 0 rfl rfl ?_
  refine b_get X fl_M_23 0 rfl (v := .ref (xa σ 5)) rfl d_M_findLeft_176 ?_
  refine b_bipush X (v := 16) d_M_findLeft_179 (by decide) ?_
  refine b_iload_n X d_M_findLeft_181 2 rfl rfl ?_
  refine b_imul X d_M_findLeft_182 ?_
  refine b_iload_n X d_M_findLeft_183 3 rfl rfl ?_
  refine b_iadd X d_M_findLeft_184 ?_
  refine b_aload_n X d_M_findLeft_185 0 rfl rfl ?_
  refine b_get X fl_M_23 0 rfl (v := .ref (xa σ 5)) rfl d_M_findLeft_186 ?_
  refine b_bipush X (v := 16) d_M_findLeft_189 (by decide) ?_
  refine b_iload_n X d_M_findLeft_191 2 rfl rfl ?_
  refine b_imul X d_M_findLeft_192 ?_
  refine b_iload_n X d_M_findLeft_193 3 rfl rfl ?_
  refine b_iadd X d_M_findLeft_194 ?_
  refine b_zald X 5 rfl (by decide) n195 e195 h195 d_M_findLeft_195 ?_
  refine b_if_ne X (tgt := 227) d_M_findLeft_196 (by decide) (fun h => absurd c196 h) (fun _ => ?_)
  refine b_aload_n X d_M_findLeft_199 0 rfl rfl ?_
  refine b_get X fl_M_23 0 rfl (v := .ref (xa σ 5)) rfl d_M_findLeft_200 ?_
  refine b_bipush X (v := 16) d_M_findLeft_203 (by decide) ?_
  refine b_iload_n X d_M_findLeft_205 2 rfl rfl ?_
  refine b_imul X d_M_findLeft_206 ?_
  refine b_iload_n X d_M_findLeft_207 1 rfl rfl ?_
  refine b_iadd X d_M_findLeft_208 ?_
  refine b_zald X 5 rfl (by decide) n209 e209 h209 d_M_findLeft_209 ?_
  refine b_if_eq X (tgt := 231) d_M_findLeft_210 (by decide) (fun h => absurd h c210) (fun _ => ?_)
  refine b_aload_n X d_M_findLeft_213 0 rfl rfl ?_
  refine b_get X fl_M_23 0 rfl (v := .ref (xa σ 5)) rfl d_M_findLeft_214 ?_
  refine b_bipush X (v := 16) d_M_findLeft_217 (by decide) ?_
  refine b_iload_n X d_M_findLeft_219 1 rfl rfl ?_
  refine b_imul X d_M_findLeft_220 ?_
  refine b_iload_n X d_M_findLeft_221 3 rfl rfl ?_
  refine b_iadd X d_M_findLeft_222 ?_
  refine b_zald X 5 rfl (by decide) n223 e223 h223 d_M_findLeft_223 ?_
  refine b_if_eq X (tgt := 231) d_M_findLeft_224 (by decide) (fun _ => ?_) (fun h => absurd c224 h)
  refine b_iconst X (v := 0) d_M_findLeft_231 (by decide) ?_
  refine b_zast X 5 rfl (by decide) n195 e195 h195 (by decide) (uWM_5 G σ n195 0) d_M_findLeft_232 ?_
  refine b_iinc X (lv' := [(0, .ref (xa σ 0)), (1, .int x1), (2, .int x2), (3, .int (x3 + 1))]) d_M_findLeft_233 3 rfl (v := (x3 + 1)) rfl (by decide) [1, 2, 3, 0] rfl ?_
  refine b_goto X (tgt := 167) d_M_findLeft_236 (by decide) ?_
  exact k
theorem sg_M_findLeft_167_ffff167 {K : KX} {G : GG} {w0 : va_W} {Q : State → Prop} (X : Bd K G w0 "FirstTreesModel" c_M_findLeft 6 none rm_M_findLeft) (σ : St) (x1 : Int32) (x2 : Int32) (x3 : Int32) (n195 : Nat) (n209 : Nat) (n223 : Nat) (c172 : ¬ (xi σ 0 1) ≤ x3) (e195 : ((16 * x2) + x3) = nI n195) (h195 : n195 < 256) (c196 : (xi σ 5 n195) = 0) (e209 : ((16 * x2) + x1) = nI n209) (h209 : n209 < 256) (c210 : ¬ (xi σ 5 n209) = 0) (e223 : ((16 * x1) + x3) = nI n223) (h223 : n223 < 256) (c224 : ¬ (xi σ 5 n223) = 0) (k : Lb K G w0 Q 6 167 [(0, .ref (xa σ 0)), (1, .int x1), (2, .int x2), (3, .int (x3 + 1))] [] (WM G (wi σ 5 n195 1)) 0 0) : Lb K G w0 Q 6 167 [(0, .ref (xa σ 0)), (1, .int x1), (2, .int x2), (3, .int x3)] [] (WM G σ) 0 0 := by
  refine b_iload_n X d_M_findLeft_167 3 rfl rfl ?_
  refine b_aload_n X d_M_findLeft_168 0 rfl rfl ?_
  refine b_get X fl_M_89 0 rfl (v := .int (xi σ 0 1)) rfl d_M_findLeft_169 ?_
  refine b_icmp_ge X (tgt := 239) d_M_findLeft_172 (by decide) (fun h => absurd h c172) (fun _ => ?_)
  refine b_aload_n X d_M_findLeft_175 0 rfl rfl ?_
  refine b_get X fl_M_23 0 rfl (v := .ref (xa σ 5)) rfl d_M_findLeft_176 ?_
  refine b_bipush X (v := 16) d_M_findLeft_179 (by decide) ?_
  refine b_iload_n X d_M_findLeft_181 2 rfl rfl ?_
  refine b_imul X d_M_findLeft_182 ?_
  refine b_iload_n X d_M_findLeft_183 3 rfl rfl ?_
  refine b_iadd X d_M_findLeft_184 ?_
  refine b_aload_n X d_M_findLeft_185 0 rfl rfl ?_
  refine b_get X fl_M_23 0 rfl (v := .ref (xa σ 5)) rfl d_M_findLeft_186 ?_
  refine b_bipush X (v := 16) d_M_findLeft_189 (by decide) ?_
  refine b_iload_n X d_M_findLeft_191 2 rfl rfl ?_
  refine b_imul X d_M_findLeft_192 ?_
  refine b_iload_n X d_M_findLeft_193 3 rfl rfl ?_
  refine b_iadd X d_M_findLeft_194 ?_
  refine b_zald X 5 rfl (by decide) n195 e195 h195 d_M_findLeft_195 ?_
  refine b_if_ne X (tgt := 227) d_M_findLeft_196 (by decide) (fun h => absurd c196 h) (fun _ => ?_)
  refine b_aload_n X d_M_findLeft_199 0 rfl rfl ?_
  refine b_get X fl_M_23 0 rfl (v := .ref (xa σ 5)) rfl d_M_findLeft_200 ?_
  refine b_bipush X (v := 16) d_M_findLeft_203 (by decide) ?_
  refine b_iload_n X d_M_findLeft_205 2 rfl rfl ?_
  refine b_imul X d_M_findLeft_206 ?_
  refine b_iload_n X d_M_findLeft_207 1 rfl rfl ?_
  refine b_iadd X d_M_findLeft_208 ?_
  refine b_zald X 5 rfl (by decide) n209 e209 h209 d_M_findLeft_209 ?_
  refine b_if_eq X (tgt := 231) d_M_findLeft_210 (by decide) (fun h => absurd h c210) (fun _ => ?_)
  refine b_aload_n X d_M_findLeft_213 0 rfl rfl ?_
  refine b_get X fl_M_23 0 rfl (v := .ref (xa σ 5)) rfl d_M_findLeft_214 ?_
  refine b_bipush X (v := 16) d_M_findLeft_217 (by decide) ?_
  refine b_iload_n X d_M_findLeft_219 1 rfl rfl ?_
  refine b_imul X d_M_findLeft_220 ?_
  refine b_iload_n X d_M_findLeft_221 3 rfl rfl ?_
  refine b_iadd X d_M_findLeft_222 ?_
  refine b_zald X 5 rfl (by decide) n223 e223 h223 d_M_findLeft_223 ?_
  refine b_if_eq X (tgt := 231) d_M_findLeft_224 (by decide) (fun h => absurd h c224) (fun _ => ?_)
  refine b_iconst X (v := 1) d_M_findLeft_227 (by decide) ?_
  refine b_goto X (tgt := 232) d_M_findLeft_228 (by decide) ?_
  refine b_zast X 5 rfl (by decide) n195 e195 h195 (by decide) (uWM_5 G σ n195 1) d_M_findLeft_232 ?_
  refine b_iinc X (lv' := [(0, .ref (xa σ 0)), (1, .int x1), (2, .int x2), (3, .int (x3 + 1))]) d_M_findLeft_233 3 rfl (v := (x3 + 1)) rfl (by decide) [1, 2, 3, 0] rfl ?_
  refine b_goto X (tgt := 167) d_M_findLeft_236 (by decide) ?_
  exact k
theorem sg_M_faultOf_0_t21 {K : KX} {G : GG} {w0 : va_W} {Q : State → Prop} (X : Bd K G w0 "FirstTreesModel" c_M_faultOf 4 (some .int) rm_M_faultOf) (σ : St)   (c9 : ¬ (xi σ 0 1) = 0) (k : Lb K G w0 Q 4 21 [(0, .ref (xa σ 0)), (1, .int ((xi σ 0 1) - 1))] [] (WM G (wi σ 0 2 (-1))) 0 0) : Lb K G w0 Q 4 0 [(0, .ref (xa σ 0))] [] (WM G σ) 0 0 := by
  refine b_aload_n X d_M_faultOf_0 0 rfl rfl ?_
  refine b_iconst X (v := (-1)) d_M_faultOf_1 (by decide) ?_
  refine b_put X fl_M_96 pl_M_faultyRule 0 rfl rfl rfl (Nat.le_of_ble_eq_true rfl) (uWM_0_faultyRule G σ (-1)) d_M_faultOf_2 ?_
  refine b_aload_n X d_M_faultOf_5 0 rfl rfl ?_
  refine b_get X fl_M_89 0 rfl (v := .int (xi σ 0 1)) rfl d_M_faultOf_6 ?_
  refine b_if_ne X (tgt := 14) d_M_faultOf_9 (by decide) (fun _ => ?_) (fun h => absurd h c9)
  refine b_aload_n X d_M_faultOf_14 0 rfl rfl ?_
  refine b_get X fl_M_89 0 rfl (v := .int (xi σ 0 1)) rfl d_M_faultOf_15 ?_
  refine b_iconst X (v := 1) d_M_faultOf_18 (by decide) ?_
  refine b_isub X d_M_faultOf_19 ?_
  refine b_istore_n X (lv' := [(0, .ref (xa σ 0)), (1, .int ((xi σ 0 1) - 1))]) d_M_faultOf_20 rfl (by decide) [1, 0] rfl ?_
  exact k
theorem sg_M_faultOf_0_fr {K : KX} {G : GG} {w0 : va_W} {post : PostT} (X : Bd K G w0 "FirstTreesModel" c_M_faultOf 4 (some .int) rm_M_faultOf) (σ : St)   (c9 : (xi σ 0 1) = 0) (hp : post (some (.int 1)) (WM G (wi σ 0 2 (-1)))) : Lb K G w0 (Qe K G w0 post rm_M_faultOf) 4 0 [(0, .ref (xa σ 0))] [] (WM G σ) 0 0 := by
  refine b_aload_n X d_M_faultOf_0 0 rfl rfl ?_
  refine b_iconst X (v := (-1)) d_M_faultOf_1 (by decide) ?_
  refine b_put X fl_M_96 pl_M_faultyRule 0 rfl rfl rfl (Nat.le_of_ble_eq_true rfl) (uWM_0_faultyRule G σ (-1)) d_M_faultOf_2 ?_
  refine b_aload_n X d_M_faultOf_5 0 rfl rfl ?_
  refine b_get X fl_M_89 0 rfl (v := .int (xi σ 0 1)) rfl d_M_faultOf_6 ?_
  refine b_if_ne X (tgt := 14) d_M_faultOf_9 (by decide) (fun h => absurd c9 h) (fun _ => ?_)
  refine b_iconst X (v := 1) d_M_faultOf_12 (by decide) ?_
  exact b_iret X d_M_faultOf_13 hp
theorem sg_M_faultOf_21_tt110 {K : KX} {G : GG} {w0 : va_W} {Q : State → Prop} (X : Bd K G w0 "FirstTreesModel" c_M_faultOf 4 (some .int) rm_M_faultOf) (σ : St) (x1 : Int32)  (c22 : x1 < 0) (c98 : (xi σ 0 2) < 0) (k : Lb K G w0 Q 4 110 [(0, .ref (xa σ 0)), (1, .int ((xi σ 0 1) - 1))] [] (WM G σ) 0 0) : Lb K G w0 Q 4 21 [(0, .ref (xa σ 0)), (1, .int x1)] [] (WM G σ) 0 0 := by
  refine b_iload_n X d_M_faultOf_21 1 rfl rfl ?_
  refine b_if_lt X (tgt := 94) d_M_faultOf_22 (by decide) (fun _ => ?_) (fun h => absurd c22 h)
  refine b_aload_n X d_M_faultOf_94 0 rfl rfl ?_
  refine b_get X fl_M_96 0 rfl (v := .int (xi σ 0 2)) rfl d_M_faultOf_95 ?_
  refine b_if_lt X (tgt := 103) d_M_faultOf_98 (by decide) (fun _ => ?_) (fun h => absurd c98 h)
  refine b_aload_n X d_M_faultOf_103 0 rfl rfl ?_
  refine b_get X fl_M_89 0 rfl (v := .int (xi σ 0 1)) rfl d_M_faultOf_104 ?_
  refine b_iconst X (v := 1) d_M_faultOf_107 (by decide) ?_
  refine b_isub X d_M_faultOf_108 ?_
  refine b_istore_n X (lv' := [(0, .ref (xa σ 0)), (1, .int ((xi σ 0 1) - 1))]) d_M_faultOf_109 rfl (by decide) [1, 0] rfl ?_
  exact k
theorem sg_M_faultOf_21_tfr {K : KX} {G : GG} {w0 : va_W} {post : PostT} (X : Bd K G w0 "FirstTreesModel" c_M_faultOf 4 (some .int) rm_M_faultOf) (σ : St) (x1 : Int32)  (c22 : x1 < 0) (c98 : ¬ (xi σ 0 2) < 0) (hp : post (some (.int 2)) (WM G σ)) : Lb K G w0 (Qe K G w0 post rm_M_faultOf) 4 21 [(0, .ref (xa σ 0)), (1, .int x1)] [] (WM G σ) 0 0 := by
  refine b_iload_n X d_M_faultOf_21 1 rfl rfl ?_
  refine b_if_lt X (tgt := 94) d_M_faultOf_22 (by decide) (fun _ => ?_) (fun h => absurd c22 h)
  refine b_aload_n X d_M_faultOf_94 0 rfl rfl ?_
  refine b_get X fl_M_96 0 rfl (v := .int (xi σ 0 2)) rfl d_M_faultOf_95 ?_
  refine b_if_lt X (tgt := 103) d_M_faultOf_98 (by decide) (fun h => absurd h c98) (fun _ => ?_)
  refine b_iconst X (v := 2) d_M_faultOf_101 (by decide) ?_
  exact b_iret X d_M_faultOf_102 hp
theorem sg_M_faultOf_21_f27 {K : KX} {G : GG} {w0 : va_W} {Q : State → Prop} (X : Bd K G w0 "FirstTreesModel" c_M_faultOf 4 (some .int) rm_M_faultOf) (σ : St) (x1 : Int32)  (c22 : ¬ x1 < 0) (k : Lb K G w0 Q 4 27 [(0, .ref (xa σ 0)), (1, .int x1), (2, .int 0)] [] (WM G σ) 0 0) : Lb K G w0 Q 4 21 [(0, .ref (xa σ 0)), (1, .int x1)] [] (WM G σ) 0 0 := by
  refine b_iload_n X d_M_faultOf_21 1 rfl rfl ?_
  refine b_if_lt X (tgt := 94) d_M_faultOf_22 (by decide) (fun h => absurd h c22) (fun _ => ?_)
  refine b_iconst X (v := 0) d_M_faultOf_25 (by decide) ?_
  refine b_istore_n X (lv' := [(0, .ref (xa σ 0)), (1, .int x1), (2, .int 0)]) d_M_faultOf_26 rfl (by decide) [1, 2, 0] rfl ?_
  exact k
theorem sg_M_faultOf_27_t21 {K : KX} {G : GG} {w0 : va_W} {Q : State → Prop} (X : Bd K G w0 "FirstTreesModel" c_M_faultOf 4 (some .int) rm_M_faultOf) (σ : St) (x1 : Int32) (x2 : Int32) (n33 : Nat) (e33 : x1 = nI n33) (h33 : n33 < 16) (c34 : (xi σ 1 n33) ≤ x2) (k : Lb K G w0 Q 4 21 [(0, .ref (xa σ 0)), (1, .int (x1 + (-1)))] [] (WM G σ) 0 0) : Lb K G w0 Q 4 27 [(0, .ref (xa σ 0)), (1, .int x1), (2, .int x2)] [] (WM G σ) 0 0 := by
  refine b_iload_n X d_M_faultOf_27 2 rfl rfl ?_
  refine b_aload_n X d_M_faultOf_28 0 rfl rfl ?_
  refine b_get X fl_M_7 0 rfl (v := .ref (xa σ 1)) rfl d_M_faultOf_29 ?_
  refine b_iload_n X d_M_faultOf_32 1 rfl rfl ?_
  refine b_iald X 1 rfl (by decide) n33 e33 h33 d_M_faultOf_33 ?_
  refine b_icmp_ge X (tgt := 88) d_M_faultOf_34 (by decide) (fun _ => ?_) (fun h => absurd c34 h)
  refine b_iinc X (lv' := [(0, .ref (xa σ 0)), (1, .int (x1 + (-1))), (2, .int x2)]) d_M_faultOf_88 1 rfl (v := (x1 + (-1))) rfl (by decide) [1, 0, 2] rfl ?_
  refine b_goto X (tgt := 21) d_M_faultOf_91 (by decide) ?_
  refine Lb.pick (lv' := [(0, .ref (xa σ 0)), (1, .int (x1 + (-1)))]) [0, 1] rfl ?_
  exact k
theorem sg_M_faultOf_27_f39 {K : KX} {G : GG} {w0 : va_W} {Q : State → Prop} (X : Bd K G w0 "FirstTreesModel" c_M_faultOf 4 (some .int) rm_M_faultOf) (σ : St) (x1 : Int32) (x2 : Int32) (n33 : Nat) (e33 : x1 = nI n33) (h33 : n33 < 16) (c34 : ¬ (xi σ 1 n33) ≤ x2) (k : Lb K G w0 Q 4 39 [(0, .ref (xa σ 0)), (1, .int x1), (2, .int x2), (3, .int 0)] [] (WM G σ) 0 0) : Lb K G w0 Q 4 27 [(0, .ref (xa σ 0)), (1, .int x1), (2, .int x2)] [] (WM G σ) 0 0 := by
  refine b_iload_n X d_M_faultOf_27 2 rfl rfl ?_
  refine b_aload_n X d_M_faultOf_28 0 rfl rfl ?_
  refine b_get X fl_M_7 0 rfl (v := .ref (xa σ 1)) rfl d_M_faultOf_29 ?_
  refine b_iload_n X d_M_faultOf_32 1 rfl rfl ?_
  refine b_iald X 1 rfl (by decide) n33 e33 h33 d_M_faultOf_33 ?_
  refine b_icmp_ge X (tgt := 88) d_M_faultOf_34 (by decide) (fun h => absurd h c34) (fun _ => ?_)
  refine b_iconst X (v := 0) d_M_faultOf_37 (by decide) ?_
  refine b_istore_n X (lv' := [(0, .ref (xa σ 0)), (1, .int x1), (2, .int x2), (3, .int 0)]) d_M_faultOf_38 rfl (by decide) [1, 2, 3, 0] rfl ?_
  exact k
theorem sg_M_faultOf_39_t27 {K : KX} {G : GG} {w0 : va_W} {Q : State → Prop} (X : Bd K G w0 "FirstTreesModel" c_M_faultOf 4 (some .int) rm_M_faultOf) (σ : St) (x1 : Int32) (x2 : Int32) (x3 : Int32) (n43 : Nat) (e43 : ((8 * x1) + x2) = nI n43) (h43 : n43 < 128) (c46 : (xi σ 2 n43) ≤ x3) (k : Lb K G w0 Q 4 27 [(0, .ref (xa σ 0)), (1, .int x1), (2, .int (x2 + 1))] [] (WM G σ) 0 0) : Lb K G w0 Q 4 39 [(0, .ref (xa σ 0)), (1, .int x1), (2, .int x2), (3, .int x3)] [] (WM G σ) 0 0 := by
  refine b_iload_n X d_M_faultOf_39 3 rfl rfl ?_
  refine b_aload_n X d_M_faultOf_40 0 rfl rfl ?_
  refine b_iload_n X d_M_faultOf_41 1 rfl rfl ?_
  refine b_iload_n X d_M_faultOf_42 2 rfl rfl ?_
  refine b_dV X cf_M_sizeOf ci_M_sizeOf ml_M_77 (ct_M_sizeOf_ G σ x1 x2 n43 e43 h43) 0 rfl rfl (As := [.int x1, .int x2]) (rest := [.int x3]) rfl (Nat.le_of_ble_eq_true rfl) ⟨Nat.le_of_ble_eq_true rfl, Nat.le_of_ble_eq_true rfl⟩ ⟨Nat.le_of_ble_eq_true rfl, Nat.le_of_ble_eq_true rfl⟩ rfl rfl d_M_faultOf_43 ?_
  refine b_icmp_ge X (tgt := 82) d_M_faultOf_46 (by decide) (fun _ => ?_) (fun h => absurd c46 h)
  refine b_iinc X (lv' := [(0, .ref (xa σ 0)), (1, .int x1), (2, .int (x2 + 1)), (3, .int x3)]) d_M_faultOf_82 2 rfl (v := (x2 + 1)) rfl (by decide) [1, 2, 0, 3] rfl ?_
  refine b_goto X (tgt := 27) d_M_faultOf_85 (by decide) ?_
  refine Lb.pick (lv' := [(0, .ref (xa σ 0)), (1, .int x1), (2, .int (x2 + 1))]) [0, 1, 2] rfl ?_
  exact k
theorem sg_M_faultOf_39_ft39 {K : KX} {G : GG} {w0 : va_W} {Q : State → Prop} (X : Bd K G w0 "FirstTreesModel" c_M_faultOf 4 (some .int) rm_M_faultOf) (σ : St) (x1 : Int32) (x2 : Int32) (x3 : Int32) (n43 : Nat) (n54 : Nat) (e43 : ((8 * x1) + x2) = nI n43) (h43 : n43 < 128) (c46 : ¬ (xi σ 2 n43) ≤ x3) (e54 : (((64 * x1) + (8 * x2)) + x3) = nI n54) (h54 : n54 < 1024) (c62 : (-(xi σ 0 1)) ≤ (xi σ 3 n54)) (k : Lb K G w0 Q 4 39 [(0, .ref (xa σ 0)), (1, .int x1), (2, .int x2), (3, .int (x3 + 1))] [] (WM G (wi σ 0 2 (xi σ 0 2))) 0 0) : Lb K G w0 Q 4 39 [(0, .ref (xa σ 0)), (1, .int x1), (2, .int x2), (3, .int x3)] [] (WM G σ) 0 0 := by
  refine b_iload_n X d_M_faultOf_39 3 rfl rfl ?_
  refine b_aload_n X d_M_faultOf_40 0 rfl rfl ?_
  refine b_iload_n X d_M_faultOf_41 1 rfl rfl ?_
  refine b_iload_n X d_M_faultOf_42 2 rfl rfl ?_
  refine b_dV X cf_M_sizeOf ci_M_sizeOf ml_M_77 (ct_M_sizeOf_ G σ x1 x2 n43 e43 h43) 0 rfl rfl (As := [.int x1, .int x2]) (rest := [.int x3]) rfl (Nat.le_of_ble_eq_true rfl) ⟨Nat.le_of_ble_eq_true rfl, Nat.le_of_ble_eq_true rfl⟩ ⟨Nat.le_of_ble_eq_true rfl, Nat.le_of_ble_eq_true rfl⟩ rfl rfl d_M_faultOf_43 ?_
  refine b_icmp_ge X (tgt := 82) d_M_faultOf_46 (by decide) (fun h => absurd h c46) (fun _ => ?_)
  refine b_aload_n X d_M_faultOf_49 0 rfl rfl ?_
  refine b_aload_n X d_M_faultOf_50 0 rfl rfl ?_
  refine b_iload_n X d_M_faultOf_51 1 rfl rfl ?_
  refine b_iload_n X d_M_faultOf_52 2 rfl rfl ?_
  refine b_iload_n X d_M_faultOf_53 3 rfl rfl ?_
  refine b_dV X cf_M_symbolAt ci_M_symbolAt ml_M_81 (ct_M_symbolAt_ G σ x1 x2 x3 n54 e54 h54) 0 rfl rfl (As := [.int x1, .int x2, .int x3]) (rest := [.ref (xa σ 0)]) rfl (Nat.le_of_ble_eq_true rfl) ⟨Nat.le_of_ble_eq_true rfl, Nat.le_of_ble_eq_true rfl⟩ ⟨Nat.le_of_ble_eq_true rfl, Nat.le_of_ble_eq_true rfl⟩ rfl rfl d_M_faultOf_54 ?_
  refine b_aload_n X d_M_faultOf_57 0 rfl rfl ?_
  refine b_get X fl_M_89 0 rfl (v := .int (xi σ 0 1)) rfl d_M_faultOf_58 ?_
  refine b_ineg X d_M_faultOf_61 ?_
  refine b_icmp_ge X (tgt := 69) d_M_faultOf_62 (by decide) (fun _ => ?_) (fun h => absurd c62 h)
  refine b_aload_n X d_M_faultOf_69 0 rfl rfl ?_
  refine b_get X fl_M_96 0 rfl (v := .int (xi σ 0 2)) rfl d_M_faultOf_70 ?_
  refine b_put X fl_M_96 pl_M_faultyRule 0 rfl rfl rfl (Nat.le_of_ble_eq_true rfl) (uWM_0_faultyRule G σ (xi σ 0 2)) d_M_faultOf_73 ?_
  refine b_iinc X (lv' := [(0, .ref (xa σ 0)), (1, .int x1), (2, .int x2), (3, .int (x3 + 1))]) d_M_faultOf_76 3 rfl (v := (x3 + 1)) rfl (by decide) [1, 2, 3, 0] rfl ?_
  refine b_goto X (tgt := 39) d_M_faultOf_79 (by decide) ?_
  exact k
theorem sg_M_faultOf_39_ff39 {K : KX} {G : GG} {w0 : va_W} {Q : State → Prop} (X : Bd K G w0 "FirstTreesModel" c_M_faultOf 4 (some .int) rm_M_faultOf) (σ : St) (x1 : Int32) (x2 : Int32) (x3 : Int32) (n43 : Nat) (n54 : Nat) (e43 : ((8 * x1) + x2) = nI n43) (h43 : n43 < 128) (c46 : ¬ (xi σ 2 n43) ≤ x3) (e54 : (((64 * x1) + (8 * x2)) + x3) = nI n54) (h54 : n54 < 1024) (c62 : ¬ (-(xi σ 0 1)) ≤ (xi σ 3 n54)) (k : Lb K G w0 Q 4 39 [(0, .ref (xa σ 0)), (1, .int x1), (2, .int x2), (3, .int (x3 + 1))] [] (WM G (wi σ 0 2 x1)) 0 0) : Lb K G w0 Q 4 39 [(0, .ref (xa σ 0)), (1, .int x1), (2, .int x2), (3, .int x3)] [] (WM G σ) 0 0 := by
  refine b_iload_n X d_M_faultOf_39 3 rfl rfl ?_
  refine b_aload_n X d_M_faultOf_40 0 rfl rfl ?_
  refine b_iload_n X d_M_faultOf_41 1 rfl rfl ?_
  refine b_iload_n X d_M_faultOf_42 2 rfl rfl ?_
  refine b_dV X cf_M_sizeOf ci_M_sizeOf ml_M_77 (ct_M_sizeOf_ G σ x1 x2 n43 e43 h43) 0 rfl rfl (As := [.int x1, .int x2]) (rest := [.int x3]) rfl (Nat.le_of_ble_eq_true rfl) ⟨Nat.le_of_ble_eq_true rfl, Nat.le_of_ble_eq_true rfl⟩ ⟨Nat.le_of_ble_eq_true rfl, Nat.le_of_ble_eq_true rfl⟩ rfl rfl d_M_faultOf_43 ?_
  refine b_icmp_ge X (tgt := 82) d_M_faultOf_46 (by decide) (fun h => absurd h c46) (fun _ => ?_)
  refine b_aload_n X d_M_faultOf_49 0 rfl rfl ?_
  refine b_aload_n X d_M_faultOf_50 0 rfl rfl ?_
  refine b_iload_n X d_M_faultOf_51 1 rfl rfl ?_
  refine b_iload_n X d_M_faultOf_52 2 rfl rfl ?_
  refine b_iload_n X d_M_faultOf_53 3 rfl rfl ?_
  refine b_dV X cf_M_symbolAt ci_M_symbolAt ml_M_81 (ct_M_symbolAt_ G σ x1 x2 x3 n54 e54 h54) 0 rfl rfl (As := [.int x1, .int x2, .int x3]) (rest := [.ref (xa σ 0)]) rfl (Nat.le_of_ble_eq_true rfl) ⟨Nat.le_of_ble_eq_true rfl, Nat.le_of_ble_eq_true rfl⟩ ⟨Nat.le_of_ble_eq_true rfl, Nat.le_of_ble_eq_true rfl⟩ rfl rfl d_M_faultOf_54 ?_
  refine b_aload_n X d_M_faultOf_57 0 rfl rfl ?_
  refine b_get X fl_M_89 0 rfl (v := .int (xi σ 0 1)) rfl d_M_faultOf_58 ?_
  refine b_ineg X d_M_faultOf_61 ?_
  refine b_icmp_ge X (tgt := 69) d_M_faultOf_62 (by decide) (fun h => absurd h c62) (fun _ => ?_)
  refine b_iload_n X d_M_faultOf_65 1 rfl rfl ?_
  refine b_goto X (tgt := 73) d_M_faultOf_66 (by decide) ?_
  refine b_put X fl_M_96 pl_M_faultyRule 0 rfl rfl rfl (Nat.le_of_ble_eq_true rfl) (uWM_0_faultyRule G σ x1) d_M_faultOf_73 ?_
  refine b_iinc X (lv' := [(0, .ref (xa σ 0)), (1, .int x1), (2, .int x2), (3, .int (x3 + 1))]) d_M_faultOf_76 3 rfl (v := (x3 + 1)) rfl (by decide) [1, 2, 3, 0] rfl ?_
  refine b_goto X (tgt := 39) d_M_faultOf_79 (by decide) ?_
  exact k
theorem sg_M_faultOf_110_tt165 {K : KX} {G : GG} {w0 : va_W} {Q : State → Prop} (X : Bd K G w0 "FirstTreesModel" c_M_faultOf 4 (some .int) rm_M_faultOf) (σ : St) (x1 : Int32) (q151 : Sq) (q155 : Sq) (c111 : x1 < 0) (c145 : (xi σ 0 2) < 0) (t151 : Ct y_M_findNothing c_M_findNothing 4 none rm_M_findNothing G [.ref (xa σ 0)] (WM G σ) (eqp (none) (WM G (xa σ, q151)))) (t155 : Ct y_M_findLeft c_M_findLeft 6 none rm_M_findLeft G [.ref (xa σ 0)] (WM G (xa σ, q151)) (eqp (none) (WM G (xa σ, q155)))) (k : Lb K G w0 Q 4 165 [(0, .ref (xa σ 0)), (1, .int ((xi (xa σ, q155) 0 1) - 1))] [] (WM G (xa σ, q155)) 0 0) : Lb K G w0 Q 4 110 [(0, .ref (xa σ 0)), (1, .int x1)] [] (WM G σ) 0 0 := by
  refine b_iload_n X d_M_faultOf_110 1 rfl rfl ?_
  refine b_if_lt X (tgt := 141) d_M_faultOf_111 (by decide) (fun _ => ?_) (fun h => absurd c111 h)
  refine b_aload_n X d_M_faultOf_141 0 rfl rfl ?_
  refine b_get X fl_M_96 0 rfl (v := .int (xi σ 0 2)) rfl d_M_faultOf_142 ?_
  refine b_if_lt X (tgt := 150) d_M_faultOf_145 (by decide) (fun _ => ?_) (fun h => absurd c145 h)
  refine b_aload_n X d_M_faultOf_150 0 rfl rfl ?_
  refine b_dV X cf_M_findNothing ci_M_findNothing ml_M_99 t151 0 rfl rfl (As := []) (rest := []) rfl (Nat.le_of_ble_eq_true rfl) ⟨Nat.le_of_ble_eq_true rfl, Nat.le_of_ble_eq_true rfl⟩ ⟨Nat.le_of_ble_eq_true rfl, Nat.le_of_ble_eq_true rfl⟩ rfl rfl d_M_faultOf_151 ?_
  refine b_aload_n X d_M_faultOf_154 0 rfl rfl ?_
  refine b_dV X cf_M_findLeft ci_M_findLeft ml_M_102 t155 0 rfl rfl (As := []) (rest := []) rfl (Nat.le_of_ble_eq_true rfl) ⟨Nat.le_of_ble_eq_true rfl, Nat.le_of_ble_eq_true rfl⟩ ⟨Nat.le_of_ble_eq_true rfl, Nat.le_of_ble_eq_true rfl⟩ rfl rfl d_M_faultOf_155 ?_
  refine b_aload_n X d_M_faultOf_158 0 rfl rfl ?_
  refine b_get X fl_M_89 0 rfl (v := .int (xi (xa σ, q155) 0 1)) rfl d_M_faultOf_159 ?_
  refine b_iconst X (v := 1) d_M_faultOf_162 (by decide) ?_
  refine b_isub X d_M_faultOf_163 ?_
  refine b_istore_n X (lv' := [(0, .ref (xa σ 0)), (1, .int ((xi (xa σ, q155) 0 1) - 1))]) d_M_faultOf_164 rfl (by decide) [1, 0] rfl ?_
  exact k
theorem sg_M_faultOf_110_tfr {K : KX} {G : GG} {w0 : va_W} {post : PostT} (X : Bd K G w0 "FirstTreesModel" c_M_faultOf 4 (some .int) rm_M_faultOf) (σ : St) (x1 : Int32)  (c111 : x1 < 0) (c145 : ¬ (xi σ 0 2) < 0) (hp : post (some (.int 3)) (WM G σ)) : Lb K G w0 (Qe K G w0 post rm_M_faultOf) 4 110 [(0, .ref (xa σ 0)), (1, .int x1)] [] (WM G σ) 0 0 := by
  refine b_iload_n X d_M_faultOf_110 1 rfl rfl ?_
  refine b_if_lt X (tgt := 141) d_M_faultOf_111 (by decide) (fun _ => ?_) (fun h => absurd c111 h)
  refine b_aload_n X d_M_faultOf_141 0 rfl rfl ?_
  refine b_get X fl_M_96 0 rfl (v := .int (xi σ 0 2)) rfl d_M_faultOf_142 ?_
  refine b_if_lt X (tgt := 150) d_M_faultOf_145 (by decide) (fun h => absurd h c145) (fun _ => ?_)
  refine b_iconst X (v := 3) d_M_faultOf_148 (by decide) ?_
  exact b_iret X d_M_faultOf_149 hp
theorem sg_M_faultOf_110_ft110 {K : KX} {G : GG} {w0 : va_W} {Q : State → Prop} (X : Bd K G w0 "FirstTreesModel" c_M_faultOf 4 (some .int) rm_M_faultOf) (σ : St) (x1 : Int32) (n120 : Nat) (c111 : ¬ x1 < 0) (e120 : x1 = nI n120) (h120 : n120 < 16) (c121 : ¬ (xi σ 1 n120) = 0) (k : Lb K G w0 Q 4 110 [(0, .ref (xa σ 0)), (1, .int (x1 + (-1)))] [] (WM G (wi σ 0 2 (xi σ 0 2))) 0 0) : Lb K G w0 Q 4 110 [(0, .ref (xa σ 0)), (1, .int x1)] [] (WM G σ) 0 0 := by
  refine b_iload_n X d_M_faultOf_110 1 rfl rfl ?_
  refine b_if_lt X (tgt := 141) d_M_faultOf_111 (by decide) (fun h => absurd h c111) (fun _ => ?_)
  refine b_aload_n X d_M_faultOf_114 0 rfl rfl ?_
  refine b_aload_n X d_M_faultOf_115 0 rfl rfl ?_
  refine b_get X fl_M_7 0 rfl (v := .ref (xa σ 1)) rfl d_M_faultOf_116 ?_
  refine b_iload_n X d_M_faultOf_119 1 rfl rfl ?_
  refine b_iald X 1 rfl (by decide) n120 e120 h120 d_M_faultOf_120 ?_
  refine b_if_ne X (tgt := 128) d_M_faultOf_121 (by decide) (fun _ => ?_) (fun h => absurd h c121)
  refine b_aload_n X d_M_faultOf_128 0 rfl rfl ?_
  refine b_get X fl_M_96 0 rfl (v := .int (xi σ 0 2)) rfl d_M_faultOf_129 ?_
  refine b_put X fl_M_96 pl_M_faultyRule 0 rfl rfl rfl (Nat.le_of_ble_eq_true rfl) (uWM_0_faultyRule G σ (xi σ 0 2)) d_M_faultOf_132 ?_
  refine b_iinc X (lv' := [(0, .ref (xa σ 0)), (1, .int (x1 + (-1)))]) d_M_faultOf_135 1 rfl (v := (x1 + (-1))) rfl (by decide) [1, 0] rfl ?_
  refine b_goto X (tgt := 110) d_M_faultOf_138 (by decide) ?_
  exact k
theorem sg_M_faultOf_110_ff110 {K : KX} {G : GG} {w0 : va_W} {Q : State → Prop} (X : Bd K G w0 "FirstTreesModel" c_M_faultOf 4 (some .int) rm_M_faultOf) (σ : St) (x1 : Int32) (n120 : Nat) (c111 : ¬ x1 < 0) (e120 : x1 = nI n120) (h120 : n120 < 16) (c121 : (xi σ 1 n120) = 0) (k : Lb K G w0 Q 4 110 [(0, .ref (xa σ 0)), (1, .int (x1 + (-1)))] [] (WM G (wi σ 0 2 x1)) 0 0) : Lb K G w0 Q 4 110 [(0, .ref (xa σ 0)), (1, .int x1)] [] (WM G σ) 0 0 := by
  refine b_iload_n X d_M_faultOf_110 1 rfl rfl ?_
  refine b_if_lt X (tgt := 141) d_M_faultOf_111 (by decide) (fun h => absurd h c111) (fun _ => ?_)
  refine b_aload_n X d_M_faultOf_114 0 rfl rfl ?_
  refine b_aload_n X d_M_faultOf_115 0 rfl rfl ?_
  refine b_get X fl_M_7 0 rfl (v := .ref (xa σ 1)) rfl d_M_faultOf_116 ?_
  refine b_iload_n X d_M_faultOf_119 1 rfl rfl ?_
  refine b_iald X 1 rfl (by decide) n120 e120 h120 d_M_faultOf_120 ?_
  refine b_if_ne X (tgt := 128) d_M_faultOf_121 (by decide) (fun h => absurd c121 h) (fun _ => ?_)
  refine b_iload_n X d_M_faultOf_124 1 rfl rfl ?_
  refine b_goto X (tgt := 132) d_M_faultOf_125 (by decide) ?_
  refine b_put X fl_M_96 pl_M_faultyRule 0 rfl rfl rfl (Nat.le_of_ble_eq_true rfl) (uWM_0_faultyRule G σ x1) d_M_faultOf_132 ?_
  refine b_iinc X (lv' := [(0, .ref (xa σ 0)), (1, .int (x1 + (-1)))]) d_M_faultOf_135 1 rfl (v := (x1 + (-1))) rfl (by decide) [1, 0] rfl ?_
  refine b_goto X (tgt := 110) d_M_faultOf_138 (by decide) ?_
  exact k
theorem sg_M_faultOf_165_ttr {K : KX} {G : GG} {w0 : va_W} {post : PostT} (X : Bd K G w0 "FirstTreesModel" c_M_faultOf 4 (some .int) rm_M_faultOf) (σ : St) (x1 : Int32)  (c166 : x1 < 0) (c203 : (xi σ 0 2) < 0) (hp : post (some (.int 0)) (WM G σ)) : Lb K G w0 (Qe K G w0 post rm_M_faultOf) 4 165 [(0, .ref (xa σ 0)), (1, .int x1)] [] (WM G σ) 0 0 := by
  refine b_iload_n X d_M_faultOf_165 1 rfl rfl ?_
  refine b_if_lt X (tgt := 199) d_M_faultOf_166 (by decide) (fun _ => ?_) (fun h => absurd c166 h)
  refine b_aload_n X d_M_faultOf_199 0 rfl rfl ?_
  refine b_get X fl_M_96 0 rfl (v := .int (xi σ 0 2)) rfl d_M_faultOf_200 ?_
  refine b_if_lt X (tgt := 210) d_M_faultOf_203 (by decide) (fun _ => ?_) (fun h => absurd c203 h)
  refine b_iconst X (v := 0) d_M_faultOf_210 (by decide) ?_
  exact b_iret X d_M_faultOf_211 hp
theorem sg_M_faultOf_165_tfr {K : KX} {G : GG} {w0 : va_W} {post : PostT} (X : Bd K G w0 "FirstTreesModel" c_M_faultOf 4 (some .int) rm_M_faultOf) (σ : St) (x1 : Int32)  (c166 : x1 < 0) (c203 : ¬ (xi σ 0 2) < 0) (hp : post (some (.int 4)) (WM G σ)) : Lb K G w0 (Qe K G w0 post rm_M_faultOf) 4 165 [(0, .ref (xa σ 0)), (1, .int x1)] [] (WM G σ) 0 0 := by
  refine b_iload_n X d_M_faultOf_165 1 rfl rfl ?_
  refine b_if_lt X (tgt := 199) d_M_faultOf_166 (by decide) (fun _ => ?_) (fun h => absurd c166 h)
  refine b_aload_n X d_M_faultOf_199 0 rfl rfl ?_
  refine b_get X fl_M_96 0 rfl (v := .int (xi σ 0 2)) rfl d_M_faultOf_200 ?_
  refine b_if_lt X (tgt := 210) d_M_faultOf_203 (by decide) (fun h => absurd h c203) (fun _ => ?_)
  refine b_iconst X (v := 4) d_M_faultOf_206 (by decide) ?_
  refine b_goto X (tgt := 211) d_M_faultOf_207 (by decide) ?_
  exact b_iret X d_M_faultOf_211 hp
theorem sg_M_faultOf_165_ft165 {K : KX} {G : GG} {w0 : va_W} {Q : State → Prop} (X : Bd K G w0 "FirstTreesModel" c_M_faultOf 4 (some .int) rm_M_faultOf) (σ : St) (x1 : Int32) (n178 : Nat) (c166 : ¬ x1 < 0) (e178 : (17 * x1) = nI n178) (h178 : n178 < 256) (c179 : (xi σ 5 n178) = 0) (k : Lb K G w0 Q 4 165 [(0, .ref (xa σ 0)), (1, .int (x1 + (-1)))] [] (WM G (wi σ 0 2 (xi σ 0 2))) 0 0) : Lb K G w0 Q 4 165 [(0, .ref (xa σ 0)), (1, .int x1)] [] (WM G σ) 0 0 := by
  refine b_iload_n X d_M_faultOf_165 1 rfl rfl ?_
  refine b_if_lt X (tgt := 199) d_M_faultOf_166 (by decide) (fun h => absurd h c166) (fun _ => ?_)
  refine b_aload_n X d_M_faultOf_169 0 rfl rfl ?_
  refine b_aload_n X d_M_faultOf_170 0 rfl rfl ?_
  refine b_get X fl_M_23 0 rfl (v := .ref (xa σ 5)) rfl d_M_faultOf_171 ?_
  refine b_bipush X (v := 17) d_M_faultOf_174 (by decide) ?_
  refine b_iload_n X d_M_faultOf_176 1 rfl rfl ?_
  refine b_imul X d_M_faultOf_177 ?_
  refine b_zald X 5 rfl (by decide) n178 e178 h178 d_M_faultOf_178 ?_
  refine b_if_eq X (tgt := 186) d_M_faultOf_179 (by decide) (fun _ => ?_) (fun h => absurd c179 h)
  refine b_aload_n X d_M_faultOf_186 0 rfl rfl ?_
  refine b_get X fl_M_96 0 rfl (v := .int (xi σ 0 2)) rfl d_M_faultOf_187 ?_
  refine b_put X fl_M_96 pl_M_faultyRule 0 rfl rfl rfl (Nat.le_of_ble_eq_true rfl) (uWM_0_faultyRule G σ (xi σ 0 2)) d_M_faultOf_190 ?_
  refine b_iinc X (lv' := [(0, .ref (xa σ 0)), (1, .int (x1 + (-1)))]) d_M_faultOf_193 1 rfl (v := (x1 + (-1))) rfl (by decide) [1, 0] rfl ?_
  refine b_goto X (tgt := 165) d_M_faultOf_196 (by decide) ?_
  exact k
theorem sg_M_faultOf_165_ff165 {K : KX} {G : GG} {w0 : va_W} {Q : State → Prop} (X : Bd K G w0 "FirstTreesModel" c_M_faultOf 4 (some .int) rm_M_faultOf) (σ : St) (x1 : Int32) (n178 : Nat) (c166 : ¬ x1 < 0) (e178 : (17 * x1) = nI n178) (h178 : n178 < 256) (c179 : ¬ (xi σ 5 n178) = 0) (k : Lb K G w0 Q 4 165 [(0, .ref (xa σ 0)), (1, .int (x1 + (-1)))] [] (WM G (wi σ 0 2 x1)) 0 0) : Lb K G w0 Q 4 165 [(0, .ref (xa σ 0)), (1, .int x1)] [] (WM G σ) 0 0 := by
  refine b_iload_n X d_M_faultOf_165 1 rfl rfl ?_
  refine b_if_lt X (tgt := 199) d_M_faultOf_166 (by decide) (fun h => absurd h c166) (fun _ => ?_)
  refine b_aload_n X d_M_faultOf_169 0 rfl rfl ?_
  refine b_aload_n X d_M_faultOf_170 0 rfl rfl ?_
  refine b_get X fl_M_23 0 rfl (v := .ref (xa σ 5)) rfl d_M_faultOf_171 ?_
  refine b_bipush X (v := 17) d_M_faultOf_174 (by decide) ?_
  refine b_iload_n X d_M_faultOf_176 1 rfl rfl ?_
  refine b_imul X d_M_faultOf_177 ?_
  refine b_zald X 5 rfl (by decide) n178 e178 h178 d_M_faultOf_178 ?_
  refine b_if_eq X (tgt := 186) d_M_faultOf_179 (by decide) (fun h => absurd h c179) (fun _ => ?_)
  refine b_iload_n X d_M_faultOf_182 1 rfl rfl ?_
  refine b_goto X (tgt := 190) d_M_faultOf_183 (by decide) ?_
  refine b_put X fl_M_96 pl_M_faultyRule 0 rfl rfl rfl (Nat.le_of_ble_eq_true rfl) (uWM_0_faultyRule G σ x1) d_M_faultOf_190 ?_
  refine b_iinc X (lv' := [(0, .ref (xa σ 0)), (1, .int (x1 + (-1)))]) d_M_faultOf_193 1 rfl (v := (x1 + (-1))) rfl (by decide) [1, 0] rfl ?_
  refine b_goto X (tgt := 165) d_M_faultOf_196 (by decide) ?_
  exact k
theorem sg_M_makeOrder_0_4 {K : KX} {G : GG} {w0 : va_W} {Q : State → Prop} (X : Bd K G w0 "FirstTreesModel" c_M_makeOrder 7 none rm_M_makeOrder) (σ : St)    (k : Lb K G w0 Q 7 4 [(0, .ref (xa σ 0)), (1, .int 0), (2, .long 0)] [] (WM G σ) 0 0) : Lb K G w0 Q 7 0 [(0, .ref (xa σ 0))] [] (WM G σ) 0 0 := by
  refine b_iconst X (v := 0) d_M_makeOrder_0 (by decide) ?_
  refine b_istore_n X (lv' := [(0, .ref (xa σ 0)), (1, .int 0)]) d_M_makeOrder_1 rfl (by decide) [1, 0] rfl ?_
  refine b_lconst X (v := 0) d_M_makeOrder_2 rfl ?_
  refine b_lstore_n X (lv' := [(0, .ref (xa σ 0)), (1, .int 0), (2, .long 0)]) d_M_makeOrder_3 rfl (by decide) [1, 2, 0] rfl ?_
  exact k
theorem sg_M_makeOrder_4_tr {K : KX} {G : GG} {w0 : va_W} {post : PostT} (X : Bd K G w0 "FirstTreesModel" c_M_makeOrder 7 none rm_M_makeOrder) (σ : St) (x1 : Int32) (x2 : Int64)  (c9 : (xi σ 0 1) ≤ x1) (hp : post none (WM G σ)) : Lb K G w0 (Qe K G w0 post rm_M_makeOrder) 7 4 [(0, .ref (xa σ 0)), (1, .int x1), (2, .long x2)] [] (WM G σ) 0 0 := by
  refine b_iload_n X d_M_makeOrder_4 1 rfl rfl ?_
  refine b_aload_n X d_M_makeOrder_5 0 rfl rfl ?_
  refine b_get X fl_M_89 0 rfl (v := .int (xi σ 0 1)) rfl d_M_makeOrder_6 ?_
  refine b_icmp_ge X (tgt := 131) d_M_makeOrder_9 (by decide) (fun _ => ?_) (fun h => absurd c9 h)
  exact b_vret X d_M_makeOrder_131 hp
theorem sg_M_makeOrder_4_f15 {K : KX} {G : GG} {w0 : va_W} {Q : State → Prop} (X : Bd K G w0 "FirstTreesModel" c_M_makeOrder 7 none rm_M_makeOrder) (σ : St) (x1 : Int32) (x2 : Int64)  (c9 : ¬ (xi σ 0 1) ≤ x1) (k : Lb K G w0 Q 7 15 [(0, .ref (xa σ 0)), (1, .int x1), (2, .long x2), (4, .int 0)] [] (WM G σ) 0 0) : Lb K G w0 Q 7 4 [(0, .ref (xa σ 0)), (1, .int x1), (2, .long x2)] [] (WM G σ) 0 0 := by
  refine b_iload_n X d_M_makeOrder_4 1 rfl rfl ?_
  refine b_aload_n X d_M_makeOrder_5 0 rfl rfl ?_
  refine b_get X fl_M_89 0 rfl (v := .int (xi σ 0 1)) rfl d_M_makeOrder_6 ?_
  refine b_icmp_ge X (tgt := 131) d_M_makeOrder_9 (by decide) (fun h => absurd h c9) (fun _ => ?_)
  refine b_iconst X (v := 0) d_M_makeOrder_12 (by decide) ?_
  refine b_istore X (lv' := [(0, .ref (xa σ 0)), (1, .int x1), (2, .long x2), (4, .int 0)]) d_M_makeOrder_13 (by decide) [1, 2, 3, 0] rfl ?_
  exact k
theorem sg_M_makeOrder_15_t4 {K : KX} {G : GG} {w0 : va_W} {Q : State → Prop} (X : Bd K G w0 "FirstTreesModel" c_M_makeOrder 7 none rm_M_makeOrder) (σ : St) (x1 : Int32) (x2 : Int64) (x4 : Int32)  (c21 : (xi σ 0 1) ≤ x4) (k : Lb K G w0 Q 7 4 [(0, .ref (xa σ 0)), (1, .int x1), (2, .long x2)] [] (WM G σ) 0 0) : Lb K G w0 Q 7 15 [(0, .ref (xa σ 0)), (1, .int x1), (2, .long x2), (4, .int x4)] [] (WM G σ) 0 0 := by
  refine b_iload X d_M_makeOrder_15 3 rfl ?_
  refine b_aload_n X d_M_makeOrder_17 0 rfl rfl ?_
  refine b_get X fl_M_89 0 rfl (v := .int (xi σ 0 1)) rfl d_M_makeOrder_18 ?_
  refine b_icmp_ge X (tgt := 128) d_M_makeOrder_21 (by decide) (fun _ => ?_) (fun h => absurd c21 h)
  refine b_goto X (tgt := 4) d_M_makeOrder_128 (by decide) ?_
  refine Lb.pick (lv' := [(0, .ref (xa σ 0)), (1, .int x1), (2, .long x2)]) [0, 1, 2] rfl ?_
  exact k
theorem sg_M_makeOrder_15_ft45 {K : KX} {G : GG} {w0 : va_W} {Q : State → Prop} (X : Bd K G w0 "FirstTreesModel" c_M_makeOrder 7 none rm_M_makeOrder) (σ : St) (x1 : Int32) (x2 : Int64) (x4 : Int32)  (c21 : ¬ (xi σ 0 1) ≤ x4) (c31 : ¬ ((shrL x2 x4) &&& 1) = 0) (k : Lb K G w0 Q 7 45 [(0, .ref (xa σ 0)), (1, .int x1), (2, .long x2), (4, .int x4), (5, .int 0), (6, .int 0)] [] (WM G σ) 0 0) : Lb K G w0 Q 7 15 [(0, .ref (xa σ 0)), (1, .int x1), (2, .long x2), (4, .int x4)] [] (WM G σ) 0 0 := by
  refine b_iload X d_M_makeOrder_15 3 rfl ?_
  refine b_aload_n X d_M_makeOrder_17 0 rfl rfl ?_
  refine b_get X fl_M_89 0 rfl (v := .int (xi σ 0 1)) rfl d_M_makeOrder_18 ?_
  refine b_icmp_ge X (tgt := 128) d_M_makeOrder_21 (by decide) (fun h => absurd h c21) (fun _ => ?_)
  refine b_lload_n X d_M_makeOrder_24 2 rfl rfl ?_
  refine b_iload X d_M_makeOrder_25 3 rfl ?_
  refine b_lshr X (v := (shrL x2 x4)) d_M_makeOrder_27 rfl ?_
  refine b_lconst X (v := 1) d_M_makeOrder_28 rfl ?_
  refine b_land X d_M_makeOrder_29 ?_
  refine b_lconst X (v := 0) d_M_makeOrder_30 rfl ?_
  refine b_l_ne X (tgt := 39) d_M_makeOrder_31 d_M_makeOrder_32 (by decide) (fun _ => ?_) (fun h => absurd h c31)
  refine b_iconst X (v := 0) d_M_makeOrder_39 (by decide) ?_
  refine b_istore X (lv' := [(0, .ref (xa σ 0)), (1, .int x1), (2, .long x2), (4, .int x4), (5, .int 0)]) d_M_makeOrder_40 (by decide) [1, 2, 3, 4, 0] rfl ?_
  refine b_iconst X (v := 0) d_M_makeOrder_42 (by decide) ?_
  refine b_istore X (lv' := [(0, .ref (xa σ 0)), (1, .int x1), (2, .long x2), (4, .int x4), (5, .int 0), (6, .int 0)]) d_M_makeOrder_43 (by decide) [1, 2, 3, 4, 5, 0] rfl ?_
  exact k
theorem sg_M_makeOrder_15_ff45 {K : KX} {G : GG} {w0 : va_W} {Q : State → Prop} (X : Bd K G w0 "FirstTreesModel" c_M_makeOrder 7 none rm_M_makeOrder) (σ : St) (x1 : Int32) (x2 : Int64) (x4 : Int32)  (c21 : ¬ (xi σ 0 1) ≤ x4) (c31 : ((shrL x2 x4) &&& 1) = 0) (k : Lb K G w0 Q 7 45 [(0, .ref (xa σ 0)), (1, .int x1), (2, .long x2), (4, .int x4), (5, .int 1), (6, .int 0)] [] (WM G σ) 0 0) : Lb K G w0 Q 7 15 [(0, .ref (xa σ 0)), (1, .int x1), (2, .long x2), (4, .int x4)] [] (WM G σ) 0 0 := by
  refine b_iload X d_M_makeOrder_15 3 rfl ?_
  refine b_aload_n X d_M_makeOrder_17 0 rfl rfl ?_
  refine b_get X fl_M_89 0 rfl (v := .int (xi σ 0 1)) rfl d_M_makeOrder_18 ?_
  refine b_icmp_ge X (tgt := 128) d_M_makeOrder_21 (by decide) (fun h => absurd h c21) (fun _ => ?_)
  refine b_lload_n X d_M_makeOrder_24 2 rfl rfl ?_
  refine b_iload X d_M_makeOrder_25 3 rfl ?_
  refine b_lshr X (v := (shrL x2 x4)) d_M_makeOrder_27 rfl ?_
  refine b_lconst X (v := 1) d_M_makeOrder_28 rfl ?_
  refine b_land X d_M_makeOrder_29 ?_
  refine b_lconst X (v := 0) d_M_makeOrder_30 rfl ?_
  refine b_l_ne X (tgt := 39) d_M_makeOrder_31 d_M_makeOrder_32 (by decide) (fun h => absurd c31 h) (fun _ => ?_)
  refine b_iconst X (v := 1) d_M_makeOrder_35 (by decide) ?_
  refine b_goto X (tgt := 40) d_M_makeOrder_36 (by decide) ?_
  refine b_istore X (lv' := [(0, .ref (xa σ 0)), (1, .int x1), (2, .long x2), (4, .int x4), (5, .int 1)]) d_M_makeOrder_40 (by decide) [1, 2, 3, 4, 0] rfl ?_
  refine b_iconst X (v := 0) d_M_makeOrder_42 (by decide) ?_
  refine b_istore X (lv' := [(0, .ref (xa σ 0)), (1, .int x1), (2, .long x2), (4, .int x4), (5, .int 1), (6, .int 0)]) d_M_makeOrder_43 (by decide) [1, 2, 3, 4, 5, 0] rfl ?_
  exact k
theorem sg_M_makeOrder_45_tt15 {K : KX} {G : GG} {w0 : va_W} {Q : State → Prop} (X : Bd K G w0 "FirstTreesModel" c_M_makeOrder 7 none rm_M_makeOrder) (σ : St) (x1 : Int32) (x2 : Int64) (x4 : Int32) (x5 : Int32) (x6 : Int32)  (c51 : (xi σ 0 1) ≤ x6) (c101 : x5 = 0) (k : Lb K G w0 Q 7 15 [(0, .ref (xa σ 0)), (1, .int x1), (2, .long x2), (4, .int (x4 + 1))] [] (WM G σ) 0 0) : Lb K G w0 Q 7 45 [(0, .ref (xa σ 0)), (1, .int x1), (2, .long x2), (4, .int x4), (5, .int x5), (6, .int x6)] [] (WM G σ) 0 0 := by
  refine b_iload X d_M_makeOrder_45 5 rfl ?_
  refine b_aload_n X d_M_makeOrder_47 0 rfl rfl ?_
  refine b_get X fl_M_89 0 rfl (v := .int (xi σ 0 1)) rfl d_M_makeOrder_48 ?_
  refine b_icmp_ge X (tgt := 99) d_M_makeOrder_51 (by decide) (fun _ => ?_) (fun h => absurd c51 h)
  refine b_iload X d_M_makeOrder_99 4 rfl ?_
  refine b_if_eq X (tgt := 122) d_M_makeOrder_101 (by decide) (fun _ => ?_) (fun h => absurd c101 h)
  refine b_iinc X (lv' := [(0, .ref (xa σ 0)), (1, .int x1), (2, .long x2), (4, .int (x4 + 1)), (5, .int x5), (6, .int x6)]) d_M_makeOrder_122 3 rfl (v := (x4 + 1)) rfl (by decide) [1, 2, 3, 0, 4, 5] rfl ?_
  refine b_goto X (tgt := 15) d_M_makeOrder_125 (by decide) ?_
  refine Lb.pick (lv' := [(0, .ref (xa σ 0)), (1, .int x1), (2, .long x2), (4, .int (x4 + 1))]) [0, 1, 2, 3] rfl ?_
  exact k
theorem sg_M_makeOrder_45_tf15 {K : KX} {G : GG} {w0 : va_W} {Q : State → Prop} (X : Bd K G w0 "FirstTreesModel" c_M_makeOrder 7 none rm_M_makeOrder) (σ : St) (x1 : Int32) (x2 : Int64) (x4 : Int32) (x5 : Int32) (x6 : Int32) (n111 : Nat) (c51 : (xi σ 0 1) ≤ x6) (c101 : ¬ x5 = 0) (e111 : x1 = nI n111) (h111 : n111 < 16) (k : Lb K G w0 Q 7 15 [(0, .ref (xa σ 0)), (1, .int (x1 + 1)), (2, .long (x2 ||| (shlL 1 x4))), (4, .int (x4 + 1))] [] (WM G (wi σ 6 n111 x4)) 0 0) : Lb K G w0 Q 7 45 [(0, .ref (xa σ 0)), (1, .int x1), (2, .long x2), (4, .int x4), (5, .int x5), (6, .int x6)] [] (WM G σ) 0 0 := by
  refine b_iload X d_M_makeOrder_45 5 rfl ?_
  refine b_aload_n X d_M_makeOrder_47 0 rfl rfl ?_
  refine b_get X fl_M_89 0 rfl (v := .int (xi σ 0 1)) rfl d_M_makeOrder_48 ?_
  refine b_icmp_ge X (tgt := 99) d_M_makeOrder_51 (by decide) (fun _ => ?_) (fun h => absurd c51 h)
  refine b_iload X d_M_makeOrder_99 4 rfl ?_
  refine b_if_eq X (tgt := 122) d_M_makeOrder_101 (by decide) (fun h => absurd h c101) (fun _ => ?_)
  refine b_aload_n X d_M_makeOrder_104 0 rfl rfl ?_
  refine b_get X fl_M_26 0 rfl (v := .ref (xa σ 6)) rfl d_M_makeOrder_105 ?_
  refine b_iload_n X d_M_makeOrder_108 1 rfl rfl ?_
  refine b_iload X d_M_makeOrder_109 3 rfl ?_
  refine b_iast X 6 rfl (by decide) n111 e111 h111 (uWM_6 G σ n111 x4) d_M_makeOrder_111 ?_
  refine b_iinc X (lv' := [(0, .ref (xa σ 0)), (1, .int (x1 + 1)), (2, .long x2), (4, .int x4), (5, .int x5), (6, .int x6)]) d_M_makeOrder_112 1 rfl (v := (x1 + 1)) rfl (by decide) [1, 0, 2, 3, 4, 5] rfl ?_
  refine b_lload_n X d_M_makeOrder_115 2 rfl rfl ?_
  refine b_lconst X (v := 1) d_M_makeOrder_116 rfl ?_
  refine b_iload X d_M_makeOrder_117 3 rfl ?_
  refine b_lshl X (v := (shlL 1 x4)) d_M_makeOrder_119 rfl ?_
  refine b_lor X d_M_makeOrder_120 ?_
  refine b_lstore_n X (lv' := [(0, .ref (xa σ 0)), (1, .int (x1 + 1)), (2, .long (x2 ||| (shlL 1 x4))), (4, .int x4), (5, .int x5), (6, .int x6)]) d_M_makeOrder_121 rfl (by decide) [1, 2, 0, 3, 4, 5] rfl ?_
  refine b_iinc X (lv' := [(0, .ref (xa σ 0)), (1, .int (x1 + 1)), (2, .long (x2 ||| (shlL 1 x4))), (4, .int (x4 + 1)), (5, .int x5), (6, .int x6)]) d_M_makeOrder_122 3 rfl (v := (x4 + 1)) rfl (by decide) [1, 2, 3, 0, 4, 5] rfl ?_
  refine b_goto X (tgt := 15) d_M_makeOrder_125 (by decide) ?_
  refine Lb.pick (lv' := [(0, .ref (xa σ 0)), (1, .int (x1 + 1)), (2, .long (x2 ||| (shlL 1 x4))), (4, .int (x4 + 1))]) [0, 1, 2, 3] rfl ?_
  exact k
theorem sg_M_makeOrder_45_ft45 {K : KX} {G : GG} {w0 : va_W} {Q : State → Prop} (X : Bd K G w0 "FirstTreesModel" c_M_makeOrder 7 none rm_M_makeOrder) (σ : St) (x1 : Int32) (x2 : Int64) (x4 : Int32) (x5 : Int32) (x6 : Int32)  (c51 : ¬ (xi σ 0 1) ≤ x6) (c56 : x5 = 0) (k : Lb K G w0 Q 7 45 [(0, .ref (xa σ 0)), (1, .int x1), (2, .long x2), (4, .int x4), (5, .int 0), (6, .int (x6 + 1))] [] (WM G σ) 0 0) : Lb K G w0 Q 7 45 [(0, .ref (xa σ 0)), (1, .int x1), (2, .long x2), (4, .int x4), (5, .int x5), (6, .int x6)] [] (WM G σ) 0 0 := by
  refine b_iload X d_M_makeOrder_45 5 rfl ?_
  refine b_aload_n X d_M_makeOrder_47 0 rfl rfl ?_
  refine b_get X fl_M_89 0 rfl (v := .int (xi σ 0 1)) rfl d_M_makeOrder_48 ?_
  refine b_icmp_ge X (tgt := 99) d_M_makeOrder_51 (by decide) (fun h => absurd h c51) (fun _ => ?_)
  refine b_iload X d_M_makeOrder_54 4 rfl ?_
  refine b_if_eq X (tgt := 90) d_M_makeOrder_56 (by decide) (fun _ => ?_) (fun h => absurd c56 h)
  refine b_iconst X (v := 0) d_M_makeOrder_90 (by decide) ?_
  refine b_istore X (lv' := [(0, .ref (xa σ 0)), (1, .int x1), (2, .long x2), (4, .int x4), (5, .int 0), (6, .int x6)]) d_M_makeOrder_91 (by decide) [1, 2, 3, 4, 0, 5] rfl ?_
  refine b_iinc X (lv' := [(0, .ref (xa σ 0)), (1, .int x1), (2, .long x2), (4, .int x4), (5, .int 0), (6, .int (x6 + 1))]) d_M_makeOrder_93 5 rfl (v := (x6 + 1)) rfl (by decide) [1, 2, 3, 4, 5, 0] rfl ?_
  refine b_goto X (tgt := 45) d_M_makeOrder_96 (by decide) ?_
  exact k
theorem sg_M_makeOrder_45_fft45 {K : KX} {G : GG} {w0 : va_W} {Q : State → Prop} (X : Bd K G w0 "FirstTreesModel" c_M_makeOrder 7 none rm_M_makeOrder) (σ : St) (x1 : Int32) (x2 : Int64) (x4 : Int32) (x5 : Int32) (x6 : Int32) (n71 : Nat) (c51 : ¬ (xi σ 0 1) ≤ x6) (c56 : ¬ x5 = 0) (e71 : ((16 * x4) + x6) = nI n71) (h71 : n71 < 256) (c72 : (xi σ 5 n71) = 0) (k : Lb K G w0 Q 7 45 [(0, .ref (xa σ 0)), (1, .int x1), (2, .long x2), (4, .int x4), (5, .int 1), (6, .int (x6 + 1))] [] (WM G σ) 0 0) : Lb K G w0 Q 7 45 [(0, .ref (xa σ 0)), (1, .int x1), (2, .long x2), (4, .int x4), (5, .int x5), (6, .int x6)] [] (WM G σ) 0 0 := by
  refine b_iload X d_M_makeOrder_45 5 rfl ?_
  refine b_aload_n X d_M_makeOrder_47 0 rfl rfl ?_
  refine b_get X fl_M_89 0 rfl (v := .int (xi σ 0 1)) rfl d_M_makeOrder_48 ?_
  refine b_icmp_ge X (tgt := 99) d_M_makeOrder_51 (by decide) (fun h => absurd h c51) (fun _ => ?_)
  refine b_iload X d_M_makeOrder_54 4 rfl ?_
  refine b_if_eq X (tgt := 90) d_M_makeOrder_56 (by decide) (fun h => absurd h c56) (fun _ => ?_)
  refine b_aload_n X d_M_makeOrder_59 0 rfl rfl ?_
  refine b_get X fl_M_23 0 rfl (v := .ref (xa σ 5)) rfl d_M_makeOrder_60 ?_
  refine b_bipush X (v := 16) d_M_makeOrder_63 (by decide) ?_
  refine b_iload X d_M_makeOrder_65 3 rfl ?_
  refine b_imul X d_M_makeOrder_67 ?_
  refine b_iload X d_M_makeOrder_68 5 rfl ?_
  refine b_iadd X d_M_makeOrder_70 ?_
  refine b_zald X 5 rfl (by decide) n71 e71 h71 d_M_makeOrder_71 ?_
  refine b_if_eq X (tgt := 86) d_M_makeOrder_72 (by decide) (fun _ => ?_) (fun h => absurd c72 h)
  refine b_iconst X (v := 1) d_M_makeOrder_86 (by decide) ?_
  refine b_goto X (tgt := 91) d_M_makeOrder_87 (by decide) ?_
  refine b_istore X (lv' := [(0, .ref (xa σ 0)), (1, .int x1), (2, .long x2), (4, .int x4), (5, .int 1), (6, .int x6)]) d_M_makeOrder_91 (by decide) [1, 2, 3, 4, 0, 5] rfl ?_
  refine b_iinc X (lv' := [(0, .ref (xa σ 0)), (1, .int x1), (2, .long x2), (4, .int x4), (5, .int 1), (6, .int (x6 + 1))]) d_M_makeOrder_93 5 rfl (v := (x6 + 1)) rfl (by decide) [1, 2, 3, 4, 5, 0] rfl ?_
  refine b_goto X (tgt := 45) d_M_makeOrder_96 (by decide) ?_
  exact k
theorem sg_M_makeOrder_45_ffft45 {K : KX} {G : GG} {w0 : va_W} {Q : State → Prop} (X : Bd K G w0 "FirstTreesModel" c_M_makeOrder 7 none rm_M_makeOrder) (σ : St) (x1 : Int32) (x2 : Int64) (x4 : Int32) (x5 : Int32) (x6 : Int32) (n71 : Nat) (c51 : ¬ (xi σ 0 1) ≤ x6) (c56 : ¬ x5 = 0) (e71 : ((16 * x4) + x6) = nI n71) (h71 : n71 < 256) (c72 : ¬ (xi σ 5 n71) = 0) (c82 : ¬ ((shrL x2 x6) &&& 1) = 1) (k : Lb K G w0 Q 7 45 [(0, .ref (xa σ 0)), (1, .int x1), (2, .long x2), (4, .int x4), (5, .int 0), (6, .int (x6 + 1))] [] (WM G σ) 0 0) : Lb K G w0 Q 7 45 [(0, .ref (xa σ 0)), (1, .int x1), (2, .long x2), (4, .int x4), (5, .int x5), (6, .int x6)] [] (WM G σ) 0 0 := by
  refine b_iload X d_M_makeOrder_45 5 rfl ?_
  refine b_aload_n X d_M_makeOrder_47 0 rfl rfl ?_
  refine b_get X fl_M_89 0 rfl (v := .int (xi σ 0 1)) rfl d_M_makeOrder_48 ?_
  refine b_icmp_ge X (tgt := 99) d_M_makeOrder_51 (by decide) (fun h => absurd h c51) (fun _ => ?_)
  refine b_iload X d_M_makeOrder_54 4 rfl ?_
  refine b_if_eq X (tgt := 90) d_M_makeOrder_56 (by decide) (fun h => absurd h c56) (fun _ => ?_)
  refine b_aload_n X d_M_makeOrder_59 0 rfl rfl ?_
  refine b_get X fl_M_23 0 rfl (v := .ref (xa σ 5)) rfl d_M_makeOrder_60 ?_
  refine b_bipush X (v := 16) d_M_makeOrder_63 (by decide) ?_
  refine b_iload X d_M_makeOrder_65 3 rfl ?_
  refine b_imul X d_M_makeOrder_67 ?_
  refine b_iload X d_M_makeOrder_68 5 rfl ?_
  refine b_iadd X d_M_makeOrder_70 ?_
  refine b_zald X 5 rfl (by decide) n71 e71 h71 d_M_makeOrder_71 ?_
  refine b_if_eq X (tgt := 86) d_M_makeOrder_72 (by decide) (fun h => absurd h c72) (fun _ => ?_)
  refine b_lload_n X d_M_makeOrder_75 2 rfl rfl ?_
  refine b_iload X d_M_makeOrder_76 5 rfl ?_
  refine b_lshr X (v := (shrL x2 x6)) d_M_makeOrder_78 rfl ?_
  refine b_lconst X (v := 1) d_M_makeOrder_79 rfl ?_
  refine b_land X d_M_makeOrder_80 ?_
  refine b_lconst X (v := 1) d_M_makeOrder_81 rfl ?_
  refine b_l_ne X (tgt := 90) d_M_makeOrder_82 d_M_makeOrder_83 (by decide) (fun _ => ?_) (fun h => absurd h c82)
  refine b_iconst X (v := 0) d_M_makeOrder_90 (by decide) ?_
  refine b_istore X (lv' := [(0, .ref (xa σ 0)), (1, .int x1), (2, .long x2), (4, .int x4), (5, .int 0), (6, .int x6)]) d_M_makeOrder_91 (by decide) [1, 2, 3, 4, 0, 5] rfl ?_
  refine b_iinc X (lv' := [(0, .ref (xa σ 0)), (1, .int x1), (2, .long x2), (4, .int x4), (5, .int 0), (6, .int (x6 + 1))]) d_M_makeOrder_93 5 rfl (v := (x6 + 1)) rfl (by decide) [1, 2, 3, 4, 5, 0] rfl ?_
  refine b_goto X (tgt := 45) d_M_makeOrder_96 (by decide) ?_
  exact k
theorem sg_M_makeOrder_45_ffff45 {K : KX} {G : GG} {w0 : va_W} {Q : State → Prop} (X : Bd K G w0 "FirstTreesModel" c_M_makeOrder 7 none rm_M_makeOrder) (σ : St) (x1 : Int32) (x2 : Int64) (x4 : Int32) (x5 : Int32) (x6 : Int32) (n71 : Nat) (c51 : ¬ (xi σ 0 1) ≤ x6) (c56 : ¬ x5 = 0) (e71 : ((16 * x4) + x6) = nI n71) (h71 : n71 < 256) (c72 : ¬ (xi σ 5 n71) = 0) (c82 : ((shrL x2 x6) &&& 1) = 1) (k : Lb K G w0 Q 7 45 [(0, .ref (xa σ 0)), (1, .int x1), (2, .long x2), (4, .int x4), (5, .int 1), (6, .int (x6 + 1))] [] (WM G σ) 0 0) : Lb K G w0 Q 7 45 [(0, .ref (xa σ 0)), (1, .int x1), (2, .long x2), (4, .int x4), (5, .int x5), (6, .int x6)] [] (WM G σ) 0 0 := by
  refine b_iload X d_M_makeOrder_45 5 rfl ?_
  refine b_aload_n X d_M_makeOrder_47 0 rfl rfl ?_
  refine b_get X fl_M_89 0 rfl (v := .int (xi σ 0 1)) rfl d_M_makeOrder_48 ?_
  refine b_icmp_ge X (tgt := 99) d_M_makeOrder_51 (by decide) (fun h => absurd h c51) (fun _ => ?_)
  refine b_iload X d_M_makeOrder_54 4 rfl ?_
  refine b_if_eq X (tgt := 90) d_M_makeOrder_56 (by decide) (fun h => absurd h c56) (fun _ => ?_)
  refine b_aload_n X d_M_makeOrder_59 0 rfl rfl ?_
  refine b_get X fl_M_23 0 rfl (v := .ref (xa σ 5)) rfl d_M_makeOrder_60 ?_
  refine b_bipush X (v := 16) d_M_makeOrder_63 (by decide) ?_
  refine b_iload X d_M_makeOrder_65 3 rfl ?_
  refine b_imul X d_M_makeOrder_67 ?_
  refine b_iload X d_M_makeOrder_68 5 rfl ?_
  refine b_iadd X d_M_makeOrder_70 ?_
  refine b_zald X 5 rfl (by decide) n71 e71 h71 d_M_makeOrder_71 ?_
  refine b_if_eq X (tgt := 86) d_M_makeOrder_72 (by decide) (fun h => absurd h c72) (fun _ => ?_)
  refine b_lload_n X d_M_makeOrder_75 2 rfl rfl ?_
  refine b_iload X d_M_makeOrder_76 5 rfl ?_
  refine b_lshr X (v := (shrL x2 x6)) d_M_makeOrder_78 rfl ?_
  refine b_lconst X (v := 1) d_M_makeOrder_79 rfl ?_
  refine b_land X d_M_makeOrder_80 ?_
  refine b_lconst X (v := 1) d_M_makeOrder_81 rfl ?_
  refine b_l_ne X (tgt := 90) d_M_makeOrder_82 d_M_makeOrder_83 (by decide) (fun h => absurd c82 h) (fun _ => ?_)
  refine b_iconst X (v := 1) d_M_makeOrder_86 (by decide) ?_
  refine b_goto X (tgt := 91) d_M_makeOrder_87 (by decide) ?_
  refine b_istore X (lv' := [(0, .ref (xa σ 0)), (1, .int x1), (2, .long x2), (4, .int x4), (5, .int 1), (6, .int x6)]) d_M_makeOrder_91 (by decide) [1, 2, 3, 4, 0, 5] rfl ?_
  refine b_iinc X (lv' := [(0, .ref (xa σ 0)), (1, .int x1), (2, .long x2), (4, .int x4), (5, .int 1), (6, .int (x6 + 1))]) d_M_makeOrder_93 5 rfl (v := (x6 + 1)) rfl (by decide) [1, 2, 3, 4, 5, 0] rfl ?_
  refine b_goto X (tgt := 45) d_M_makeOrder_96 (by decide) ?_
  exact k
theorem sg_M_step_0_6 {K : KX} {G : GG} {w0 : va_W} {Q : State → Prop} (X : Bd K G w0 "FirstTreesModel" c_M_step 8 (some .long) rm_M_step) (σ : St) (x1 : Int64) (x3 : Int32)   (k : Lb K G w0 Q 8 6 [(0, .ref (xa σ 0)), (1, .long x1), (3, .int x3), (4, .long 0), (6, .int 0)] [] (WM G σ) 0 0) : Lb K G w0 Q 8 0 [(0, .ref (xa σ 0)), (1, .long x1), (3, .int x3)] [] (WM G σ) 0 0 := by
  refine b_lconst X (v := 0) d_M_step_0 rfl ?_
  refine b_lstore X (lv' := [(0, .ref (xa σ 0)), (1, .long x1), (3, .int x3), (4, .long 0)]) d_M_step_1 (by decide) [1, 2, 3, 0] rfl ?_
  refine b_iconst X (v := 0) d_M_step_3 (by decide) ?_
  refine b_istore X (lv' := [(0, .ref (xa σ 0)), (1, .long x1), (3, .int x3), (4, .long 0), (6, .int 0)]) d_M_step_4 (by decide) [1, 2, 3, 4, 0] rfl ?_
  exact k
theorem sg_M_step_6_tr {K : KX} {G : GG} {w0 : va_W} {post : PostT} (X : Bd K G w0 "FirstTreesModel" c_M_step 8 (some .long) rm_M_step) (σ : St) (x1 : Int64) (x3 : Int32) (x4 : Int64) (x6 : Int32)  (c12 : (xi σ 0 3) < x6) (hp : post (some (.long x4)) (WM G σ)) : Lb K G w0 (Qe K G w0 post rm_M_step) 8 6 [(0, .ref (xa σ 0)), (1, .long x1), (3, .int x3), (4, .long x4), (6, .int x6)] [] (WM G σ) 0 0 := by
  refine b_iload X d_M_step_6 4 rfl ?_
  refine b_aload_n X d_M_step_8 0 rfl rfl ?_
  refine b_get X fl_M_105 0 rfl (v := .int (xi σ 0 3)) rfl d_M_step_9 ?_
  refine b_icmp_gt X (tgt := 179) d_M_step_12 (by decide) (fun _ => ?_) (fun h => absurd c12 h)
  refine b_lload X d_M_step_179 3 rfl ?_
  exact b_lret X d_M_step_181 hp
theorem sg_M_step_6_ftttt6 {K : KX} {G : GG} {w0 : va_W} {Q : State → Prop} (X : Bd K G w0 "FirstTreesModel" c_M_step 8 (some .long) rm_M_step) (σ : St) (x1 : Int64) (x3 : Int32) (x4 : Int64) (x6 : Int32)  (c12 : ¬ (xi σ 0 3) < x6) (c22 : ¬ ((shrL x1 x6) &&& 1) = 0) (c36 : x6 ≤ (xi σ 0 7)) (c55 : (b2i (x3 < 0)) = 0) (c122 : (xi σ 0 3) ≤ x6) (k : Lb K G w0 Q 8 6 [(0, .ref (xa σ 0)), (1, .long x1), (3, .int x3), (4, .long x4), (6, .int (x6 + 1))] [] (WM G (wi σ 0 7 (xi σ 0 7))) 0 0) : Lb K G w0 Q 8 6 [(0, .ref (xa σ 0)), (1, .long x1), (3, .int x3), (4, .long x4), (6, .int x6)] [] (WM G σ) 0 0 := by
  refine b_iload X d_M_step_6 4 rfl ?_
  refine b_aload_n X d_M_step_8 0 rfl rfl ?_
  refine b_get X fl_M_105 0 rfl (v := .int (xi σ 0 3)) rfl d_M_step_9 ?_
  refine b_icmp_gt X (tgt := 179) d_M_step_12 (by decide) (fun h => absurd h c12) (fun _ => ?_)
  refine b_lload_n X d_M_step_15 1 rfl rfl ?_
  refine b_iload X d_M_step_16 4 rfl ?_
  refine b_lshr X (v := (shrL x1 x6)) d_M_step_18 rfl ?_
  refine b_lconst X (v := 1) d_M_step_19 rfl ?_
  refine b_land X d_M_step_20 ?_
  refine b_lconst X (v := 0) d_M_step_21 rfl ?_
  refine b_l_ne X (tgt := 29) d_M_step_22 d_M_step_23 (by decide) (fun _ => ?_) (fun h => absurd h c22)
  refine b_aload_n X d_M_step_29 0 rfl rfl ?_
  refine b_iload X d_M_step_30 4 rfl ?_
  refine b_aload_n X d_M_step_32 0 rfl rfl ?_
  refine b_get X fl_M_108 0 rfl (v := .int (xi σ 0 7)) rfl d_M_step_33 ?_
  refine b_icmp_le X (tgt := 44) d_M_step_36 (by decide) (fun _ => ?_) (fun h => absurd c36 h)
  refine b_aload_n X d_M_step_44 0 rfl rfl ?_
  refine b_get X fl_M_108 0 rfl (v := .int (xi σ 0 7)) rfl d_M_step_45 ?_
  refine b_put X fl_M_108 pl_M_farthest 0 rfl rfl rfl (Nat.le_of_ble_eq_true rfl) (uWM_0_farthest G σ (xi σ 0 7)) d_M_step_48 ?_
  refine b_iload_n X d_M_step_51 2 rfl rfl ?_
  refine b_dS X cf_M_isRule ci_M_isRule ml_M_85 (ct_M_isRule G (wi σ 0 7 (xi σ 0 7)) x3) (As := [.int x3]) (rest := []) rfl (Nat.le_of_ble_eq_true rfl) ⟨Nat.le_of_ble_eq_true rfl, Nat.le_of_ble_eq_true rfl⟩ ⟨Nat.le_of_ble_eq_true rfl, Nat.le_of_ble_eq_true rfl⟩ rfl rfl d_M_step_52 ?_
  refine b_if_eq X (tgt := 116) d_M_step_55 (by decide) (fun _ => ?_) (fun h => absurd c55 h)
  refine b_iload X d_M_step_116 4 rfl ?_
  refine b_aload_n X d_M_step_118 0 rfl rfl ?_
  refine b_get X fl_M_105 0 rfl (v := .int (xi σ 0 3)) rfl d_M_step_119 ?_
  refine b_icmp_ge X (tgt := 173) d_M_step_122 (by decide) (fun _ => ?_) (fun h => absurd c122 h)
  refine b_iinc X (lv' := [(0, .ref (xa σ 0)), (1, .long x1), (3, .int x3), (4, .long x4), (6, .int (x6 + 1))]) d_M_step_173 4 rfl (v := (x6 + 1)) rfl (by decide) [1, 2, 3, 4, 0] rfl ?_
  refine b_goto X (tgt := 6) d_M_step_176 (by decide) ?_
  exact k
theorem sg_M_step_6_ftttft6 {K : KX} {G : GG} {w0 : va_W} {Q : State → Prop} (X : Bd K G w0 "FirstTreesModel" c_M_step 8 (some .long) rm_M_step) (σ : St) (x1 : Int64) (x3 : Int32) (x4 : Int64) (x6 : Int32) (n131 : Nat) (c12 : ¬ (xi σ 0 3) < x6) (c22 : ¬ ((shrL x1 x6) &&& 1) = 0) (c36 : x6 ≤ (xi σ 0 7)) (c55 : (b2i (x3 < 0)) = 0) (c122 : ¬ (xi σ 0 3) ≤ x6) (e131 : x6 = nI n131) (h131 : n131 < 60) (c133 : ¬ (xi σ 7 n131) = x3) (k : Lb K G w0 Q 8 6 [(0, .ref (xa σ 0)), (1, .long x1), (3, .int x3), (4, .long x4), (6, .int (x6 + 1))] [] (WM G (wi σ 0 7 (xi σ 0 7))) 0 0) : Lb K G w0 Q 8 6 [(0, .ref (xa σ 0)), (1, .long x1), (3, .int x3), (4, .long x4), (6, .int x6)] [] (WM G σ) 0 0 := by
  refine b_iload X d_M_step_6 4 rfl ?_
  refine b_aload_n X d_M_step_8 0 rfl rfl ?_
  refine b_get X fl_M_105 0 rfl (v := .int (xi σ 0 3)) rfl d_M_step_9 ?_
  refine b_icmp_gt X (tgt := 179) d_M_step_12 (by decide) (fun h => absurd h c12) (fun _ => ?_)
  refine b_lload_n X d_M_step_15 1 rfl rfl ?_
  refine b_iload X d_M_step_16 4 rfl ?_
  refine b_lshr X (v := (shrL x1 x6)) d_M_step_18 rfl ?_
  refine b_lconst X (v := 1) d_M_step_19 rfl ?_
  refine b_land X d_M_step_20 ?_
  refine b_lconst X (v := 0) d_M_step_21 rfl ?_
  refine b_l_ne X (tgt := 29) d_M_step_22 d_M_step_23 (by decide) (fun _ => ?_) (fun h => absurd h c22)
  refine b_aload_n X d_M_step_29 0 rfl rfl ?_
  refine b_iload X d_M_step_30 4 rfl ?_
  refine b_aload_n X d_M_step_32 0 rfl rfl ?_
  refine b_get X fl_M_108 0 rfl (v := .int (xi σ 0 7)) rfl d_M_step_33 ?_
  refine b_icmp_le X (tgt := 44) d_M_step_36 (by decide) (fun _ => ?_) (fun h => absurd c36 h)
  refine b_aload_n X d_M_step_44 0 rfl rfl ?_
  refine b_get X fl_M_108 0 rfl (v := .int (xi σ 0 7)) rfl d_M_step_45 ?_
  refine b_put X fl_M_108 pl_M_farthest 0 rfl rfl rfl (Nat.le_of_ble_eq_true rfl) (uWM_0_farthest G σ (xi σ 0 7)) d_M_step_48 ?_
  refine b_iload_n X d_M_step_51 2 rfl rfl ?_
  refine b_dS X cf_M_isRule ci_M_isRule ml_M_85 (ct_M_isRule G (wi σ 0 7 (xi σ 0 7)) x3) (As := [.int x3]) (rest := []) rfl (Nat.le_of_ble_eq_true rfl) ⟨Nat.le_of_ble_eq_true rfl, Nat.le_of_ble_eq_true rfl⟩ ⟨Nat.le_of_ble_eq_true rfl, Nat.le_of_ble_eq_true rfl⟩ rfl rfl d_M_step_52 ?_
  refine b_if_eq X (tgt := 116) d_M_step_55 (by decide) (fun _ => ?_) (fun h => absurd c55 h)
  refine b_iload X d_M_step_116 4 rfl ?_
  refine b_aload_n X d_M_step_118 0 rfl rfl ?_
  refine b_get X fl_M_105 0 rfl (v := .int (xi σ 0 3)) rfl d_M_step_119 ?_
  refine b_icmp_ge X (tgt := 173) d_M_step_122 (by decide) (fun h => absurd h c122) (fun _ => ?_)
  refine b_aload_n X d_M_step_125 0 rfl rfl ?_
  refine b_get X fl_M_29 0 rfl (v := .ref (xa σ 7)) rfl d_M_step_126 ?_
  refine b_iload X d_M_step_129 4 rfl ?_
  refine b_iald X 7 rfl (by decide) n131 e131 h131 d_M_step_131 ?_
  refine b_iload_n X d_M_step_132 2 rfl rfl ?_
  refine b_icmp_ne X (tgt := 173) d_M_step_133 (by decide) (fun _ => ?_) (fun h => absurd h c133)
  refine b_iinc X (lv' := [(0, .ref (xa σ 0)), (1, .long x1), (3, .int x3), (4, .long x4), (6, .int (x6 + 1))]) d_M_step_173 4 rfl (v := (x6 + 1)) rfl (by decide) [1, 2, 3, 4, 0] rfl ?_
  refine b_goto X (tgt := 6) d_M_step_176 (by decide) ?_
  exact k
theorem sg_M_step_6_ftttfft6 {K : KX} {G : GG} {w0 : va_W} {Q : State → Prop} (X : Bd K G w0 "FirstTreesModel" c_M_step 8 (some .long) rm_M_step) (σ : St) (x1 : Int64) (x3 : Int32) (x4 : Int64) (x6 : Int32) (n131 : Nat) (c12 : ¬ (xi σ 0 3) < x6) (c22 : ¬ ((shrL x1 x6) &&& 1) = 0) (c36 : x6 ≤ (xi σ 0 7)) (c55 : (b2i (x3 < 0)) = 0) (c122 : ¬ (xi σ 0 3) ≤ x6) (e131 : x6 = nI n131) (h131 : n131 < 60) (c133 : (xi σ 7 n131) = x3) (c156 : (x6 + 1) ≤ (xi σ 0 7)) (k : Lb K G w0 Q 8 6 [(0, .ref (xa σ 0)), (1, .long x1), (3, .int x3), (4, .long (x4 ||| (shlL 1 (x6 + 1)))), (6, .int (x6 + 1))] [] (WM G (wi (wi σ 0 7 (xi σ 0 7)) 0 7 (xi σ 0 7))) 0 0) : Lb K G w0 Q 8 6 [(0, .ref (xa σ 0)), (1, .long x1), (3, .int x3), (4, .long x4), (6, .int x6)] [] (WM G σ) 0 0 := by
  refine b_iload X d_M_step_6 4 rfl ?_
  refine b_aload_n X d_M_step_8 0 rfl rfl ?_
  refine b_get X fl_M_105 0 rfl (v := .int (xi σ 0 3)) rfl d_M_step_9 ?_
  refine b_icmp_gt X (tgt := 179) d_M_step_12 (by decide) (fun h => absurd h c12) (fun _ => ?_)
  refine b_lload_n X d_M_step_15 1 rfl rfl ?_
  refine b_iload X d_M_step_16 4 rfl ?_
  refine b_lshr X (v := (shrL x1 x6)) d_M_step_18 rfl ?_
  refine b_lconst X (v := 1) d_M_step_19 rfl ?_
  refine b_land X d_M_step_20 ?_
  refine b_lconst X (v := 0) d_M_step_21 rfl ?_
  refine b_l_ne X (tgt := 29) d_M_step_22 d_M_step_23 (by decide) (fun _ => ?_) (fun h => absurd h c22)
  refine b_aload_n X d_M_step_29 0 rfl rfl ?_
  refine b_iload X d_M_step_30 4 rfl ?_
  refine b_aload_n X d_M_step_32 0 rfl rfl ?_
  refine b_get X fl_M_108 0 rfl (v := .int (xi σ 0 7)) rfl d_M_step_33 ?_
  refine b_icmp_le X (tgt := 44) d_M_step_36 (by decide) (fun _ => ?_) (fun h => absurd c36 h)
  refine b_aload_n X d_M_step_44 0 rfl rfl ?_
  refine b_get X fl_M_108 0 rfl (v := .int (xi σ 0 7)) rfl d_M_step_45 ?_
  refine b_put X fl_M_108 pl_M_farthest 0 rfl rfl rfl (Nat.le_of_ble_eq_true rfl) (uWM_0_farthest G σ (xi σ 0 7)) d_M_step_48 ?_
  refine b_iload_n X d_M_step_51 2 rfl rfl ?_
  refine b_dS X cf_M_isRule ci_M_isRule ml_M_85 (ct_M_isRule G (wi σ 0 7 (xi σ 0 7)) x3) (As := [.int x3]) (rest := []) rfl (Nat.le_of_ble_eq_true rfl) ⟨Nat.le_of_ble_eq_true rfl, Nat.le_of_ble_eq_true rfl⟩ ⟨Nat.le_of_ble_eq_true rfl, Nat.le_of_ble_eq_true rfl⟩ rfl rfl d_M_step_52 ?_
  refine b_if_eq X (tgt := 116) d_M_step_55 (by decide) (fun _ => ?_) (fun h => absurd c55 h)
  refine b_iload X d_M_step_116 4 rfl ?_
  refine b_aload_n X d_M_step_118 0 rfl rfl ?_
  refine b_get X fl_M_105 0 rfl (v := .int (xi σ 0 3)) rfl d_M_step_119 ?_
  refine b_icmp_ge X (tgt := 173) d_M_step_122 (by decide) (fun h => absurd h c122) (fun _ => ?_)
  refine b_aload_n X d_M_step_125 0 rfl rfl ?_
  refine b_get X fl_M_29 0 rfl (v := .ref (xa σ 7)) rfl d_M_step_126 ?_
  refine b_iload X d_M_step_129 4 rfl ?_
  refine b_iald X 7 rfl (by decide) n131 e131 h131 d_M_step_131 ?_
  refine b_iload_n X d_M_step_132 2 rfl rfl ?_
  refine b_icmp_ne X (tgt := 173) d_M_step_133 (by decide) (fun h => absurd c133 h) (fun _ => ?_)
  refine b_lload X d_M_step_136 3 rfl ?_
  refine b_lconst X (v := 1) d_M_step_138 rfl ?_
  refine b_iload X d_M_step_139 4 rfl ?_
  refine b_iconst X (v := 1) d_M_step_141 (by decide) ?_
  refine b_iadd X d_M_step_142 ?_
  refine b_lshl X (v := (shlL 1 (x6 + 1))) d_M_step_143 rfl ?_
  refine b_lor X d_M_step_144 ?_
  refine b_lstore X (lv' := [(0, .ref (xa σ 0)), (1, .long x1), (3, .int x3), (4, .long (x4 ||| (shlL 1 (x6 + 1)))), (6, .int x6)]) d_M_step_145 (by decide) [1, 2, 3, 0, 4] rfl ?_
  refine b_aload_n X d_M_step_147 0 rfl rfl ?_
  refine b_iload X d_M_step_148 4 rfl ?_
  refine b_iconst X (v := 1) d_M_step_150 (by decide) ?_
  refine b_iadd X d_M_step_151 ?_
  refine b_aload_n X d_M_step_152 0 rfl rfl ?_
  refine b_get X fl_M_108 0 rfl (v := .int (xi σ 0 7)) rfl d_M_step_153 ?_
  refine b_icmp_le X (tgt := 166) d_M_step_156 (by decide) (fun _ => ?_) (fun h => absurd c156 h)
  refine b_aload_n X d_M_step_166 0 rfl rfl ?_
  refine b_get X fl_M_108 0 rfl (v := .int (xi σ 0 7)) rfl d_M_step_167 ?_
  refine b_put X fl_M_108 pl_M_farthest 0 rfl rfl rfl (Nat.le_of_ble_eq_true rfl) (uWM_0_farthest G (wi σ 0 7 (xi σ 0 7)) (xi σ 0 7)) d_M_step_170 ?_
  refine b_iinc X (lv' := [(0, .ref (xa σ 0)), (1, .long x1), (3, .int x3), (4, .long (x4 ||| (shlL 1 (x6 + 1)))), (6, .int (x6 + 1))]) d_M_step_173 4 rfl (v := (x6 + 1)) rfl (by decide) [1, 2, 3, 4, 0] rfl ?_
  refine b_goto X (tgt := 6) d_M_step_176 (by decide) ?_
  exact k
theorem sg_M_step_6_ftttfff6 {K : KX} {G : GG} {w0 : va_W} {Q : State → Prop} (X : Bd K G w0 "FirstTreesModel" c_M_step 8 (some .long) rm_M_step) (σ : St) (x1 : Int64) (x3 : Int32) (x4 : Int64) (x6 : Int32) (n131 : Nat) (c12 : ¬ (xi σ 0 3) < x6) (c22 : ¬ ((shrL x1 x6) &&& 1) = 0) (c36 : x6 ≤ (xi σ 0 7)) (c55 : (b2i (x3 < 0)) = 0) (c122 : ¬ (xi σ 0 3) ≤ x6) (e131 : x6 = nI n131) (h131 : n131 < 60) (c133 : (xi σ 7 n131) = x3) (c156 : ¬ (x6 + 1) ≤ (xi σ 0 7)) (k : Lb K G w0 Q 8 6 [(0, .ref (xa σ 0)), (1, .long x1), (3, .int x3), (4, .long (x4 ||| (shlL 1 (x6 + 1)))), (6, .int (x6 + 1))] [] (WM G (wi (wi σ 0 7 (xi σ 0 7)) 0 7 (x6 + 1))) 0 0) : Lb K G w0 Q 8 6 [(0, .ref (xa σ 0)), (1, .long x1), (3, .int x3), (4, .long x4), (6, .int x6)] [] (WM G σ) 0 0 := by
  refine b_iload X d_M_step_6 4 rfl ?_
  refine b_aload_n X d_M_step_8 0 rfl rfl ?_
  refine b_get X fl_M_105 0 rfl (v := .int (xi σ 0 3)) rfl d_M_step_9 ?_
  refine b_icmp_gt X (tgt := 179) d_M_step_12 (by decide) (fun h => absurd h c12) (fun _ => ?_)
  refine b_lload_n X d_M_step_15 1 rfl rfl ?_
  refine b_iload X d_M_step_16 4 rfl ?_
  refine b_lshr X (v := (shrL x1 x6)) d_M_step_18 rfl ?_
  refine b_lconst X (v := 1) d_M_step_19 rfl ?_
  refine b_land X d_M_step_20 ?_
  refine b_lconst X (v := 0) d_M_step_21 rfl ?_
  refine b_l_ne X (tgt := 29) d_M_step_22 d_M_step_23 (by decide) (fun _ => ?_) (fun h => absurd h c22)
  refine b_aload_n X d_M_step_29 0 rfl rfl ?_
  refine b_iload X d_M_step_30 4 rfl ?_
  refine b_aload_n X d_M_step_32 0 rfl rfl ?_
  refine b_get X fl_M_108 0 rfl (v := .int (xi σ 0 7)) rfl d_M_step_33 ?_
  refine b_icmp_le X (tgt := 44) d_M_step_36 (by decide) (fun _ => ?_) (fun h => absurd c36 h)
  refine b_aload_n X d_M_step_44 0 rfl rfl ?_
  refine b_get X fl_M_108 0 rfl (v := .int (xi σ 0 7)) rfl d_M_step_45 ?_
  refine b_put X fl_M_108 pl_M_farthest 0 rfl rfl rfl (Nat.le_of_ble_eq_true rfl) (uWM_0_farthest G σ (xi σ 0 7)) d_M_step_48 ?_
  refine b_iload_n X d_M_step_51 2 rfl rfl ?_
  refine b_dS X cf_M_isRule ci_M_isRule ml_M_85 (ct_M_isRule G (wi σ 0 7 (xi σ 0 7)) x3) (As := [.int x3]) (rest := []) rfl (Nat.le_of_ble_eq_true rfl) ⟨Nat.le_of_ble_eq_true rfl, Nat.le_of_ble_eq_true rfl⟩ ⟨Nat.le_of_ble_eq_true rfl, Nat.le_of_ble_eq_true rfl⟩ rfl rfl d_M_step_52 ?_
  refine b_if_eq X (tgt := 116) d_M_step_55 (by decide) (fun _ => ?_) (fun h => absurd c55 h)
  refine b_iload X d_M_step_116 4 rfl ?_
  refine b_aload_n X d_M_step_118 0 rfl rfl ?_
  refine b_get X fl_M_105 0 rfl (v := .int (xi σ 0 3)) rfl d_M_step_119 ?_
  refine b_icmp_ge X (tgt := 173) d_M_step_122 (by decide) (fun h => absurd h c122) (fun _ => ?_)
  refine b_aload_n X d_M_step_125 0 rfl rfl ?_
  refine b_get X fl_M_29 0 rfl (v := .ref (xa σ 7)) rfl d_M_step_126 ?_
  refine b_iload X d_M_step_129 4 rfl ?_
  refine b_iald X 7 rfl (by decide) n131 e131 h131 d_M_step_131 ?_
  refine b_iload_n X d_M_step_132 2 rfl rfl ?_
  refine b_icmp_ne X (tgt := 173) d_M_step_133 (by decide) (fun h => absurd c133 h) (fun _ => ?_)
  refine b_lload X d_M_step_136 3 rfl ?_
  refine b_lconst X (v := 1) d_M_step_138 rfl ?_
  refine b_iload X d_M_step_139 4 rfl ?_
  refine b_iconst X (v := 1) d_M_step_141 (by decide) ?_
  refine b_iadd X d_M_step_142 ?_
  refine b_lshl X (v := (shlL 1 (x6 + 1))) d_M_step_143 rfl ?_
  refine b_lor X d_M_step_144 ?_
  refine b_lstore X (lv' := [(0, .ref (xa σ 0)), (1, .long x1), (3, .int x3), (4, .long (x4 ||| (shlL 1 (x6 + 1)))), (6, .int x6)]) d_M_step_145 (by decide) [1, 2, 3, 0, 4] rfl ?_
  refine b_aload_n X d_M_step_147 0 rfl rfl ?_
  refine b_iload X d_M_step_148 4 rfl ?_
  refine b_iconst X (v := 1) d_M_step_150 (by decide) ?_
  refine b_iadd X d_M_step_151 ?_
  refine b_aload_n X d_M_step_152 0 rfl rfl ?_
  refine b_get X fl_M_108 0 rfl (v := .int (xi σ 0 7)) rfl d_M_step_153 ?_
  refine b_icmp_le X (tgt := 166) d_M_step_156 (by decide) (fun h => absurd h c156) (fun _ => ?_)
  refine b_iload X d_M_step_159 4 rfl ?_
  refine b_iconst X (v := 1) d_M_step_161 (by decide) ?_
  refine b_iadd X d_M_step_162 ?_
  refine b_goto X (tgt := 170) d_M_step_163 (by decide) ?_
  refine b_put X fl_M_108 pl_M_farthest 0 rfl rfl rfl (Nat.le_of_ble_eq_true rfl) (uWM_0_farthest G (wi σ 0 7 (xi σ 0 7)) (x6 + 1)) d_M_step_170 ?_
  refine b_iinc X (lv' := [(0, .ref (xa σ 0)), (1, .long x1), (3, .int x3), (4, .long (x4 ||| (shlL 1 (x6 + 1)))), (6, .int (x6 + 1))]) d_M_step_173 4 rfl (v := (x6 + 1)) rfl (by decide) [1, 2, 3, 4, 0] rfl ?_
  refine b_goto X (tgt := 6) d_M_step_176 (by decide) ?_
  exact k
theorem sg_M_step_6_fttft6 {K : KX} {G : GG} {w0 : va_W} {Q : State → Prop} (X : Bd K G w0 "FirstTreesModel" c_M_step 8 (some .long) rm_M_step) (σ : St) (x1 : Int64) (x3 : Int32) (x4 : Int64) (x6 : Int32) (n77 : Nat) (c12 : ¬ (xi σ 0 3) < x6) (c22 : ¬ ((shrL x1 x6) &&& 1) = 0) (c36 : x6 ≤ (xi σ 0 7)) (c55 : ¬ (b2i (x3 < 0)) = 0) (e77 : ((61 * ((-1) - x3)) + x6) = nI n77) (h77 : n77 < 976) (c93 : (xi σ 9 n77) ≤ (xi σ 0 7)) (k : Lb K G w0 Q 8 6 [(0, .ref (xa σ 0)), (1, .long x1), (3, .int x3), (4, .long (x4 ||| (xl σ 8 n77))), (6, .int (x6 + 1))] [] (WM G (wi (wi σ 0 7 (xi σ 0 7)) 0 7 (xi σ 0 7))) 0 0) : Lb K G w0 Q 8 6 [(0, .ref (xa σ 0)), (1, .long x1), (3, .int x3), (4, .long x4), (6, .int x6)] [] (WM G σ) 0 0 := by
  refine b_iload X d_M_step_6 4 rfl ?_
  refine b_aload_n X d_M_step_8 0 rfl rfl ?_
  refine b_get X fl_M_105 0 rfl (v := .int (xi σ 0 3)) rfl d_M_step_9 ?_
  refine b_icmp_gt X (tgt := 179) d_M_step_12 (by decide) (fun h => absurd h c12) (fun _ => ?_)
  refine b_lload_n X d_M_step_15 1 rfl rfl ?_
  refine b_iload X d_M_step_16 4 rfl ?_
  refine b_lshr X (v := (shrL x1 x6)) d_M_step_18 rfl ?_
  refine b_lconst X (v := 1) d_M_step_19 rfl ?_
  refine b_land X d_M_step_20 ?_
  refine b_lconst X (v := 0) d_M_step_21 rfl ?_
  refine b_l_ne X (tgt := 29) d_M_step_22 d_M_step_23 (by decide) (fun _ => ?_) (fun h => absurd h c22)
  refine b_aload_n X d_M_step_29 0 rfl rfl ?_
  refine b_iload X d_M_step_30 4 rfl ?_
  refine b_aload_n X d_M_step_32 0 rfl rfl ?_
  refine b_get X fl_M_108 0 rfl (v := .int (xi σ 0 7)) rfl d_M_step_33 ?_
  refine b_icmp_le X (tgt := 44) d_M_step_36 (by decide) (fun _ => ?_) (fun h => absurd c36 h)
  refine b_aload_n X d_M_step_44 0 rfl rfl ?_
  refine b_get X fl_M_108 0 rfl (v := .int (xi σ 0 7)) rfl d_M_step_45 ?_
  refine b_put X fl_M_108 pl_M_farthest 0 rfl rfl rfl (Nat.le_of_ble_eq_true rfl) (uWM_0_farthest G σ (xi σ 0 7)) d_M_step_48 ?_
  refine b_iload_n X d_M_step_51 2 rfl rfl ?_
  refine b_dS X cf_M_isRule ci_M_isRule ml_M_85 (ct_M_isRule G (wi σ 0 7 (xi σ 0 7)) x3) (As := [.int x3]) (rest := []) rfl (Nat.le_of_ble_eq_true rfl) ⟨Nat.le_of_ble_eq_true rfl, Nat.le_of_ble_eq_true rfl⟩ ⟨Nat.le_of_ble_eq_true rfl, Nat.le_of_ble_eq_true rfl⟩ rfl rfl d_M_step_52 ?_
  refine b_if_eq X (tgt := 116) d_M_step_55 (by decide) (fun h => absurd h c55) (fun _ => ?_)
  refine b_bipush X (v := 61) d_M_step_58 (by decide) ?_
  refine b_iconst X (v := (-1)) d_M_step_60 (by decide) ?_
  refine b_iload_n X d_M_step_61 2 rfl rfl ?_
  refine b_isub X d_M_step_62 ?_
  refine b_imul X d_M_step_63 ?_
  refine b_iload X d_M_step_64 4 rfl ?_
  refine b_iadd X d_M_step_66 ?_
  refine b_istore X (lv' := [(0, .ref (xa σ 0)), (1, .long x1), (3, .int x3), (4, .long x4), (6, .int x6), (7, .int ((61 * ((-1) - x3)) + x6))]) d_M_step_67 (by decide) [1, 2, 3, 4, 5, 0] rfl ?_
  refine b_lload X d_M_step_69 3 rfl ?_
  refine b_aload_n X d_M_step_71 0 rfl rfl ?_
  refine b_get X fl_M_32 0 rfl (v := .ref (xa σ 8)) rfl d_M_step_72 ?_
  refine b_iload X d_M_step_75 5 rfl ?_
  refine b_lald X 8 rfl (by decide) n77 e77 h77 d_M_step_77 ?_
  refine b_lor X d_M_step_78 ?_
  refine b_lstore X (lv' := [(0, .ref (xa σ 0)), (1, .long x1), (3, .int x3), (4, .long (x4 ||| (xl σ 8 n77))), (6, .int x6), (7, .int ((61 * ((-1) - x3)) + x6))]) d_M_step_79 (by decide) [1, 2, 3, 0, 4, 5] rfl ?_
  refine b_aload_n X d_M_step_81 0 rfl rfl ?_
  refine b_aload_n X d_M_step_82 0 rfl rfl ?_
  refine b_get X fl_M_36 0 rfl (v := .ref (xa σ 9)) rfl d_M_step_83 ?_
  refine b_iload X d_M_step_86 5 rfl ?_
  refine b_iald X 9 rfl (by decide) n77 e77 h77 d_M_step_88 ?_
  refine b_aload_n X d_M_step_89 0 rfl rfl ?_
  refine b_get X fl_M_108 0 rfl (v := .int (xi σ 0 7)) rfl d_M_step_90 ?_
  refine b_icmp_le X (tgt := 106) d_M_step_93 (by decide) (fun _ => ?_) (fun h => absurd c93 h)
  refine b_aload_n X d_M_step_106 0 rfl rfl ?_
  refine b_get X fl_M_108 0 rfl (v := .int (xi σ 0 7)) rfl d_M_step_107 ?_
  refine b_put X fl_M_108 pl_M_farthest 0 rfl rfl rfl (Nat.le_of_ble_eq_true rfl) (uWM_0_farthest G (wi σ 0 7 (xi σ 0 7)) (xi σ 0 7)) d_M_step_110 ?_
  refine b_goto X (tgt := 173) d_M_step_113 (by decide) ?_
  refine b_iinc X (lv' := [(0, .ref (xa σ 0)), (1, .long x1), (3, .int x3), (4, .long (x4 ||| (xl σ 8 n77))), (6, .int (x6 + 1)), (7, .int ((61 * ((-1) - x3)) + x6))]) d_M_step_173 4 rfl (v := (x6 + 1)) rfl (by decide) [1, 2, 3, 4, 0, 5] rfl ?_
  refine b_goto X (tgt := 6) d_M_step_176 (by decide) ?_
  refine Lb.pick (lv' := [(0, .ref (xa σ 0)), (1, .long x1), (3, .int x3), (4, .long (x4 ||| (xl σ 8 n77))), (6, .int (x6 + 1))]) [0, 1, 2, 3, 4] rfl ?_
  exact k
theorem sg_M_step_6_fttff6 {K : KX} {G : GG} {w0 : va_W} {Q : State → Prop} (X : Bd K G w0 "FirstTreesModel" c_M_step 8 (some .long) rm_M_step) (σ : St) (x1 : Int64) (x3 : Int32) (x4 : Int64) (x6 : Int32) (n77 : Nat) (c12 : ¬ (xi σ 0 3) < x6) (c22 : ¬ ((shrL x1 x6) &&& 1) = 0) (c36 : x6 ≤ (xi σ 0 7)) (c55 : ¬ (b2i (x3 < 0)) = 0) (e77 : ((61 * ((-1) - x3)) + x6) = nI n77) (h77 : n77 < 976) (c93 : ¬ (xi σ 9 n77) ≤ (xi σ 0 7)) (k : Lb K G w0 Q 8 6 [(0, .ref (xa σ 0)), (1, .long x1), (3, .int x3), (4, .long (x4 ||| (xl σ 8 n77))), (6, .int (x6 + 1))] [] (WM G (wi (wi σ 0 7 (xi σ 0 7)) 0 7 (xi σ 9 n77))) 0 0) : Lb K G w0 Q 8 6 [(0, .ref (xa σ 0)), (1, .long x1), (3, .int x3), (4, .long x4), (6, .int x6)] [] (WM G σ) 0 0 := by
  refine b_iload X d_M_step_6 4 rfl ?_
  refine b_aload_n X d_M_step_8 0 rfl rfl ?_
  refine b_get X fl_M_105 0 rfl (v := .int (xi σ 0 3)) rfl d_M_step_9 ?_
  refine b_icmp_gt X (tgt := 179) d_M_step_12 (by decide) (fun h => absurd h c12) (fun _ => ?_)
  refine b_lload_n X d_M_step_15 1 rfl rfl ?_
  refine b_iload X d_M_step_16 4 rfl ?_
  refine b_lshr X (v := (shrL x1 x6)) d_M_step_18 rfl ?_
  refine b_lconst X (v := 1) d_M_step_19 rfl ?_
  refine b_land X d_M_step_20 ?_
  refine b_lconst X (v := 0) d_M_step_21 rfl ?_
  refine b_l_ne X (tgt := 29) d_M_step_22 d_M_step_23 (by decide) (fun _ => ?_) (fun h => absurd h c22)
  refine b_aload_n X d_M_step_29 0 rfl rfl ?_
  refine b_iload X d_M_step_30 4 rfl ?_
  refine b_aload_n X d_M_step_32 0 rfl rfl ?_
  refine b_get X fl_M_108 0 rfl (v := .int (xi σ 0 7)) rfl d_M_step_33 ?_
  refine b_icmp_le X (tgt := 44) d_M_step_36 (by decide) (fun _ => ?_) (fun h => absurd c36 h)
  refine b_aload_n X d_M_step_44 0 rfl rfl ?_
  refine b_get X fl_M_108 0 rfl (v := .int (xi σ 0 7)) rfl d_M_step_45 ?_
  refine b_put X fl_M_108 pl_M_farthest 0 rfl rfl rfl (Nat.le_of_ble_eq_true rfl) (uWM_0_farthest G σ (xi σ 0 7)) d_M_step_48 ?_
  refine b_iload_n X d_M_step_51 2 rfl rfl ?_
  refine b_dS X cf_M_isRule ci_M_isRule ml_M_85 (ct_M_isRule G (wi σ 0 7 (xi σ 0 7)) x3) (As := [.int x3]) (rest := []) rfl (Nat.le_of_ble_eq_true rfl) ⟨Nat.le_of_ble_eq_true rfl, Nat.le_of_ble_eq_true rfl⟩ ⟨Nat.le_of_ble_eq_true rfl, Nat.le_of_ble_eq_true rfl⟩ rfl rfl d_M_step_52 ?_
  refine b_if_eq X (tgt := 116) d_M_step_55 (by decide) (fun h => absurd h c55) (fun _ => ?_)
  refine b_bipush X (v := 61) d_M_step_58 (by decide) ?_
  refine b_iconst X (v := (-1)) d_M_step_60 (by decide) ?_
  refine b_iload_n X d_M_step_61 2 rfl rfl ?_
  refine b_isub X d_M_step_62 ?_
  refine b_imul X d_M_step_63 ?_
  refine b_iload X d_M_step_64 4 rfl ?_
  refine b_iadd X d_M_step_66 ?_
  refine b_istore X (lv' := [(0, .ref (xa σ 0)), (1, .long x1), (3, .int x3), (4, .long x4), (6, .int x6), (7, .int ((61 * ((-1) - x3)) + x6))]) d_M_step_67 (by decide) [1, 2, 3, 4, 5, 0] rfl ?_
  refine b_lload X d_M_step_69 3 rfl ?_
  refine b_aload_n X d_M_step_71 0 rfl rfl ?_
  refine b_get X fl_M_32 0 rfl (v := .ref (xa σ 8)) rfl d_M_step_72 ?_
  refine b_iload X d_M_step_75 5 rfl ?_
  refine b_lald X 8 rfl (by decide) n77 e77 h77 d_M_step_77 ?_
  refine b_lor X d_M_step_78 ?_
  refine b_lstore X (lv' := [(0, .ref (xa σ 0)), (1, .long x1), (3, .int x3), (4, .long (x4 ||| (xl σ 8 n77))), (6, .int x6), (7, .int ((61 * ((-1) - x3)) + x6))]) d_M_step_79 (by decide) [1, 2, 3, 0, 4, 5] rfl ?_
  refine b_aload_n X d_M_step_81 0 rfl rfl ?_
  refine b_aload_n X d_M_step_82 0 rfl rfl ?_
  refine b_get X fl_M_36 0 rfl (v := .ref (xa σ 9)) rfl d_M_step_83 ?_
  refine b_iload X d_M_step_86 5 rfl ?_
  refine b_iald X 9 rfl (by decide) n77 e77 h77 d_M_step_88 ?_
  refine b_aload_n X d_M_step_89 0 rfl rfl ?_
  refine b_get X fl_M_108 0 rfl (v := .int (xi σ 0 7)) rfl d_M_step_90 ?_
  refine b_icmp_le X (tgt := 106) d_M_step_93 (by decide) (fun h => absurd h c93) (fun _ => ?_)
  refine b_aload_n X d_M_step_96 0 rfl rfl ?_
  refine b_get X fl_M_36 0 rfl (v := .ref (xa σ 9)) rfl d_M_step_97 ?_
  refine b_iload X d_M_step_100 5 rfl ?_
  refine b_iald X 9 rfl (by decide) n77 e77 h77 d_M_step_102 ?_
  refine b_goto X (tgt := 110) d_M_step_103 (by decide) ?_
  refine b_put X fl_M_108 pl_M_farthest 0 rfl rfl rfl (Nat.le_of_ble_eq_true rfl) (uWM_0_farthest G (wi σ 0 7 (xi σ 0 7)) (xi σ 9 n77)) d_M_step_110 ?_
  refine b_goto X (tgt := 173) d_M_step_113 (by decide) ?_
  refine b_iinc X (lv' := [(0, .ref (xa σ 0)), (1, .long x1), (3, .int x3), (4, .long (x4 ||| (xl σ 8 n77))), (6, .int (x6 + 1)), (7, .int ((61 * ((-1) - x3)) + x6))]) d_M_step_173 4 rfl (v := (x6 + 1)) rfl (by decide) [1, 2, 3, 4, 0, 5] rfl ?_
  refine b_goto X (tgt := 6) d_M_step_176 (by decide) ?_
  refine Lb.pick (lv' := [(0, .ref (xa σ 0)), (1, .long x1), (3, .int x3), (4, .long (x4 ||| (xl σ 8 n77))), (6, .int (x6 + 1))]) [0, 1, 2, 3, 4] rfl ?_
  exact k
theorem sg_M_step_6_ftftt6 {K : KX} {G : GG} {w0 : va_W} {Q : State → Prop} (X : Bd K G w0 "FirstTreesModel" c_M_step 8 (some .long) rm_M_step) (σ : St) (x1 : Int64) (x3 : Int32) (x4 : Int64) (x6 : Int32)  (c12 : ¬ (xi σ 0 3) < x6) (c22 : ¬ ((shrL x1 x6) &&& 1) = 0) (c36 : ¬ x6 ≤ (xi σ 0 7)) (c55 : (b2i (x3 < 0)) = 0) (c122 : (xi σ 0 3) ≤ x6) (k : Lb K G w0 Q 8 6 [(0, .ref (xa σ 0)), (1, .long x1), (3, .int x3), (4, .long x4), (6, .int (x6 + 1))] [] (WM G (wi σ 0 7 x6)) 0 0) : Lb K G w0 Q 8 6 [(0, .ref (xa σ 0)), (1, .long x1), (3, .int x3), (4, .long x4), (6, .int x6)] [] (WM G σ) 0 0 := by
  refine b_iload X d_M_step_6 4 rfl ?_
  refine b_aload_n X d_M_step_8 0 rfl rfl ?_
  refine b_get X fl_M_105 0 rfl (v := .int (xi σ 0 3)) rfl d_M_step_9 ?_
  refine b_icmp_gt X (tgt := 179) d_M_step_12 (by decide) (fun h => absurd h c12) (fun _ => ?_)
  refine b_lload_n X d_M_step_15 1 rfl rfl ?_
  refine b_iload X d_M_step_16 4 rfl ?_
  refine b_lshr X (v := (shrL x1 x6)) d_M_step_18 rfl ?_
  refine b_lconst X (v := 1) d_M_step_19 rfl ?_
  refine b_land X d_M_step_20 ?_
  refine b_lconst X (v := 0) d_M_step_21 rfl ?_
  refine b_l_ne X (tgt := 29) d_M_step_22 d_M_step_23 (by decide) (fun _ => ?_) (fun h => absurd h c22)
  refine b_aload_n X d_M_step_29 0 rfl rfl ?_
  refine b_iload X d_M_step_30 4 rfl ?_
  refine b_aload_n X d_M_step_32 0 rfl rfl ?_
  refine b_get X fl_M_108 0 rfl (v := .int (xi σ 0 7)) rfl d_M_step_33 ?_
  refine b_icmp_le X (tgt := 44) d_M_step_36 (by decide) (fun h => absurd h c36) (fun _ => ?_)
  refine b_iload X d_M_step_39 4 rfl ?_
  refine b_goto X (tgt := 48) d_M_step_41 (by decide) ?_
  refine b_put X fl_M_108 pl_M_farthest 0 rfl rfl rfl (Nat.le_of_ble_eq_true rfl) (uWM_0_farthest G σ x6) d_M_step_48 ?_
  refine b_iload_n X d_M_step_51 2 rfl rfl ?_
  refine b_dS X cf_M_isRule ci_M_isRule ml_M_85 (ct_M_isRule G (wi σ 0 7 x6) x3) (As := [.int x3]) (rest := []) rfl (Nat.le_of_ble_eq_true rfl) ⟨Nat.le_of_ble_eq_true rfl, Nat.le_of_ble_eq_true rfl⟩ ⟨Nat.le_of_ble_eq_true rfl, Nat.le_of_ble_eq_true rfl⟩ rfl rfl d_M_step_52 ?_
  refine b_if_eq X (tgt := 116) d_M_step_55 (by decide) (fun _ => ?_) (fun h => absurd c55 h)
  refine b_iload X d_M_step_116 4 rfl ?_
  refine b_aload_n X d_M_step_118 0 rfl rfl ?_
  refine b_get X fl_M_105 0 rfl (v := .int (xi σ 0 3)) rfl d_M_step_119 ?_
  refine b_icmp_ge X (tgt := 173) d_M_step_122 (by decide) (fun _ => ?_) (fun h => absurd c122 h)
  refine b_iinc X (lv' := [(0, .ref (xa σ 0)), (1, .long x1), (3, .int x3), (4, .long x4), (6, .int (x6 + 1))]) d_M_step_173 4 rfl (v := (x6 + 1)) rfl (by decide) [1, 2, 3, 4, 0] rfl ?_
  refine b_goto X (tgt := 6) d_M_step_176 (by decide) ?_
  exact k
theorem sg_M_step_6_ftftft6 {K : KX} {G : GG} {w0 : va_W} {Q : State → Prop} (X : Bd K G w0 "FirstTreesModel" c_M_step 8 (some .long) rm_M_step) (σ : St) (x1 : Int64) (x3 : Int32) (x4 : Int64) (x6 : Int32) (n131 : Nat) (c12 : ¬ (xi σ 0 3) < x6) (c22 : ¬ ((shrL x1 x6) &&& 1) = 0) (c36 : ¬ x6 ≤ (xi σ 0 7)) (c55 : (b2i (x3 < 0)) = 0) (c122 : ¬ (xi σ 0 3) ≤ x6) (e131 : x6 = nI n131) (h131 : n131 < 60) (c133 : ¬ (xi σ 7 n131) = x3) (k : Lb K G w0 Q 8 6 [(0, .ref (xa σ 0)), (1, .long x1), (3, .int x3), (4, .long x4), (6, .int (x6 + 1))] [] (WM G (wi σ 0 7 x6)) 0 0) : Lb K G w0 Q 8 6 [(0, .ref (xa σ 0)), (1, .long x1), (3, .int x3), (4, .long x4), (6, .int x6)] [] (WM G σ) 0 0 := by
  refine b_iload X d_M_step_6 4 rfl ?_
  refine b_aload_n X d_M_step_8 0 rfl rfl ?_
  refine b_get X fl_M_105 0 rfl (v := .int (xi σ 0 3)) rfl d_M_step_9 ?_
  refine b_icmp_gt X (tgt := 179) d_M_step_12 (by decide) (fun h => absurd h c12) (fun _ => ?_)
  refine b_lload_n X d_M_step_15 1 rfl rfl ?_
  refine b_iload X d_M_step_16 4 rfl ?_
  refine b_lshr X (v := (shrL x1 x6)) d_M_step_18 rfl ?_
  refine b_lconst X (v := 1) d_M_step_19 rfl ?_
  refine b_land X d_M_step_20 ?_
  refine b_lconst X (v := 0) d_M_step_21 rfl ?_
  refine b_l_ne X (tgt := 29) d_M_step_22 d_M_step_23 (by decide) (fun _ => ?_) (fun h => absurd h c22)
  refine b_aload_n X d_M_step_29 0 rfl rfl ?_
  refine b_iload X d_M_step_30 4 rfl ?_
  refine b_aload_n X d_M_step_32 0 rfl rfl ?_
  refine b_get X fl_M_108 0 rfl (v := .int (xi σ 0 7)) rfl d_M_step_33 ?_
  refine b_icmp_le X (tgt := 44) d_M_step_36 (by decide) (fun h => absurd h c36) (fun _ => ?_)
  refine b_iload X d_M_step_39 4 rfl ?_
  refine b_goto X (tgt := 48) d_M_step_41 (by decide) ?_
  refine b_put X fl_M_108 pl_M_farthest 0 rfl rfl rfl (Nat.le_of_ble_eq_true rfl) (uWM_0_farthest G σ x6) d_M_step_48 ?_
  refine b_iload_n X d_M_step_51 2 rfl rfl ?_
  refine b_dS X cf_M_isRule ci_M_isRule ml_M_85 (ct_M_isRule G (wi σ 0 7 x6) x3) (As := [.int x3]) (rest := []) rfl (Nat.le_of_ble_eq_true rfl) ⟨Nat.le_of_ble_eq_true rfl, Nat.le_of_ble_eq_true rfl⟩ ⟨Nat.le_of_ble_eq_true rfl, Nat.le_of_ble_eq_true rfl⟩ rfl rfl d_M_step_52 ?_
  refine b_if_eq X (tgt := 116) d_M_step_55 (by decide) (fun _ => ?_) (fun h => absurd c55 h)
  refine b_iload X d_M_step_116 4 rfl ?_
  refine b_aload_n X d_M_step_118 0 rfl rfl ?_
  refine b_get X fl_M_105 0 rfl (v := .int (xi σ 0 3)) rfl d_M_step_119 ?_
  refine b_icmp_ge X (tgt := 173) d_M_step_122 (by decide) (fun h => absurd h c122) (fun _ => ?_)
  refine b_aload_n X d_M_step_125 0 rfl rfl ?_
  refine b_get X fl_M_29 0 rfl (v := .ref (xa σ 7)) rfl d_M_step_126 ?_
  refine b_iload X d_M_step_129 4 rfl ?_
  refine b_iald X 7 rfl (by decide) n131 e131 h131 d_M_step_131 ?_
  refine b_iload_n X d_M_step_132 2 rfl rfl ?_
  refine b_icmp_ne X (tgt := 173) d_M_step_133 (by decide) (fun _ => ?_) (fun h => absurd h c133)
  refine b_iinc X (lv' := [(0, .ref (xa σ 0)), (1, .long x1), (3, .int x3), (4, .long x4), (6, .int (x6 + 1))]) d_M_step_173 4 rfl (v := (x6 + 1)) rfl (by decide) [1, 2, 3, 4, 0] rfl ?_
  refine b_goto X (tgt := 6) d_M_step_176 (by decide) ?_
  exact k
theorem sg_M_step_6_ftftfft6 {K : KX} {G : GG} {w0 : va_W} {Q : State → Prop} (X : Bd K G w0 "FirstTreesModel" c_M_step 8 (some .long) rm_M_step) (σ : St) (x1 : Int64) (x3 : Int32) (x4 : Int64) (x6 : Int32) (n131 : Nat) (c12 : ¬ (xi σ 0 3) < x6) (c22 : ¬ ((shrL x1 x6) &&& 1) = 0) (c36 : ¬ x6 ≤ (xi σ 0 7)) (c55 : (b2i (x3 < 0)) = 0) (c122 : ¬ (xi σ 0 3) ≤ x6) (e131 : x6 = nI n131) (h131 : n131 < 60) (c133 : (xi σ 7 n131) = x3) (c156 : (x6 + 1) ≤ x6) (k : Lb K G w0 Q 8 6 [(0, .ref (xa σ 0)), (1, .long x1), (3, .int x3), (4, .long (x4 ||| (shlL 1 (x6 + 1)))), (6, .int (x6 + 1))] [] (WM G (wi (wi σ 0 7 x6) 0 7 x6)) 0 0) : Lb K G w0 Q 8 6 [(0, .ref (xa σ 0)), (1, .long x1), (3, .int x3), (4, .long x4), (6, .int x6)] [] (WM G σ) 0 0 := by
  refine b_iload X d_M_step_6 4 rfl ?_
  refine b_aload_n X d_M_step_8 0 rfl rfl ?_
  refine b_get X fl_M_105 0 rfl (v := .int (xi σ 0 3)) rfl d_M_step_9 ?_
  refine b_icmp_gt X (tgt := 179) d_M_step_12 (by decide) (fun h => absurd h c12) (fun _ => ?_)
  refine b_lload_n X d_M_step_15 1 rfl rfl ?_
  refine b_iload X d_M_step_16 4 rfl ?_
  refine b_lshr X (v := (shrL x1 x6)) d_M_step_18 rfl ?_
  refine b_lconst X (v := 1) d_M_step_19 rfl ?_
  refine b_land X d_M_step_20 ?_
  refine b_lconst X (v := 0) d_M_step_21 rfl ?_
  refine b_l_ne X (tgt := 29) d_M_step_22 d_M_step_23 (by decide) (fun _ => ?_) (fun h => absurd h c22)
  refine b_aload_n X d_M_step_29 0 rfl rfl ?_
  refine b_iload X d_M_step_30 4 rfl ?_
  refine b_aload_n X d_M_step_32 0 rfl rfl ?_
  refine b_get X fl_M_108 0 rfl (v := .int (xi σ 0 7)) rfl d_M_step_33 ?_
  refine b_icmp_le X (tgt := 44) d_M_step_36 (by decide) (fun h => absurd h c36) (fun _ => ?_)
  refine b_iload X d_M_step_39 4 rfl ?_
  refine b_goto X (tgt := 48) d_M_step_41 (by decide) ?_
  refine b_put X fl_M_108 pl_M_farthest 0 rfl rfl rfl (Nat.le_of_ble_eq_true rfl) (uWM_0_farthest G σ x6) d_M_step_48 ?_
  refine b_iload_n X d_M_step_51 2 rfl rfl ?_
  refine b_dS X cf_M_isRule ci_M_isRule ml_M_85 (ct_M_isRule G (wi σ 0 7 x6) x3) (As := [.int x3]) (rest := []) rfl (Nat.le_of_ble_eq_true rfl) ⟨Nat.le_of_ble_eq_true rfl, Nat.le_of_ble_eq_true rfl⟩ ⟨Nat.le_of_ble_eq_true rfl, Nat.le_of_ble_eq_true rfl⟩ rfl rfl d_M_step_52 ?_
  refine b_if_eq X (tgt := 116) d_M_step_55 (by decide) (fun _ => ?_) (fun h => absurd c55 h)
  refine b_iload X d_M_step_116 4 rfl ?_
  refine b_aload_n X d_M_step_118 0 rfl rfl ?_
  refine b_get X fl_M_105 0 rfl (v := .int (xi σ 0 3)) rfl d_M_step_119 ?_
  refine b_icmp_ge X (tgt := 173) d_M_step_122 (by decide) (fun h => absurd h c122) (fun _ => ?_)
  refine b_aload_n X d_M_step_125 0 rfl rfl ?_
  refine b_get X fl_M_29 0 rfl (v := .ref (xa σ 7)) rfl d_M_step_126 ?_
  refine b_iload X d_M_step_129 4 rfl ?_
  refine b_iald X 7 rfl (by decide) n131 e131 h131 d_M_step_131 ?_
  refine b_iload_n X d_M_step_132 2 rfl rfl ?_
  refine b_icmp_ne X (tgt := 173) d_M_step_133 (by decide) (fun h => absurd c133 h) (fun _ => ?_)
  refine b_lload X d_M_step_136 3 rfl ?_
  refine b_lconst X (v := 1) d_M_step_138 rfl ?_
  refine b_iload X d_M_step_139 4 rfl ?_
  refine b_iconst X (v := 1) d_M_step_141 (by decide) ?_
  refine b_iadd X d_M_step_142 ?_
  refine b_lshl X (v := (shlL 1 (x6 + 1))) d_M_step_143 rfl ?_
  refine b_lor X d_M_step_144 ?_
  refine b_lstore X (lv' := [(0, .ref (xa σ 0)), (1, .long x1), (3, .int x3), (4, .long (x4 ||| (shlL 1 (x6 + 1)))), (6, .int x6)]) d_M_step_145 (by decide) [1, 2, 3, 0, 4] rfl ?_
  refine b_aload_n X d_M_step_147 0 rfl rfl ?_
  refine b_iload X d_M_step_148 4 rfl ?_
  refine b_iconst X (v := 1) d_M_step_150 (by decide) ?_
  refine b_iadd X d_M_step_151 ?_
  refine b_aload_n X d_M_step_152 0 rfl rfl ?_
  refine b_get X fl_M_108 0 rfl (v := .int x6) rfl d_M_step_153 ?_
  refine b_icmp_le X (tgt := 166) d_M_step_156 (by decide) (fun _ => ?_) (fun h => absurd c156 h)
  refine b_aload_n X d_M_step_166 0 rfl rfl ?_
  refine b_get X fl_M_108 0 rfl (v := .int x6) rfl d_M_step_167 ?_
  refine b_put X fl_M_108 pl_M_farthest 0 rfl rfl rfl (Nat.le_of_ble_eq_true rfl) (uWM_0_farthest G (wi σ 0 7 x6) x6) d_M_step_170 ?_
  refine b_iinc X (lv' := [(0, .ref (xa σ 0)), (1, .long x1), (3, .int x3), (4, .long (x4 ||| (shlL 1 (x6 + 1)))), (6, .int (x6 + 1))]) d_M_step_173 4 rfl (v := (x6 + 1)) rfl (by decide) [1, 2, 3, 4, 0] rfl ?_
  refine b_goto X (tgt := 6) d_M_step_176 (by decide) ?_
  exact k
theorem sg_M_step_6_ftftfff6 {K : KX} {G : GG} {w0 : va_W} {Q : State → Prop} (X : Bd K G w0 "FirstTreesModel" c_M_step 8 (some .long) rm_M_step) (σ : St) (x1 : Int64) (x3 : Int32) (x4 : Int64) (x6 : Int32) (n131 : Nat) (c12 : ¬ (xi σ 0 3) < x6) (c22 : ¬ ((shrL x1 x6) &&& 1) = 0) (c36 : ¬ x6 ≤ (xi σ 0 7)) (c55 : (b2i (x3 < 0)) = 0) (c122 : ¬ (xi σ 0 3) ≤ x6) (e131 : x6 = nI n131) (h131 : n131 < 60) (c133 : (xi σ 7 n131) = x3) (c156 : ¬ (x6 + 1) ≤ x6) (k : Lb K G w0 Q 8 6 [(0, .ref (xa σ 0)), (1, .long x1), (3, .int x3), (4, .long (x4 ||| (shlL 1 (x6 + 1)))), (6, .int (x6 + 1))] [] (WM G (wi (wi σ 0 7 x6) 0 7 (x6 + 1))) 0 0) : Lb K G w0 Q 8 6 [(0, .ref (xa σ 0)), (1, .long x1), (3, .int x3), (4, .long x4), (6, .int x6)] [] (WM G σ) 0 0 := by
  refine b_iload X d_M_step_6 4 rfl ?_
  refine b_aload_n X d_M_step_8 0 rfl rfl ?_
  refine b_get X fl_M_105 0 rfl (v := .int (xi σ 0 3)) rfl d_M_step_9 ?_
  refine b_icmp_gt X (tgt := 179) d_M_step_12 (by decide) (fun h => absurd h c12) (fun _ => ?_)
  refine b_lload_n X d_M_step_15 1 rfl rfl ?_
  refine b_iload X d_M_step_16 4 rfl ?_
  refine b_lshr X (v := (shrL x1 x6)) d_M_step_18 rfl ?_
  refine b_lconst X (v := 1) d_M_step_19 rfl ?_
  refine b_land X d_M_step_20 ?_
  refine b_lconst X (v := 0) d_M_step_21 rfl ?_
  refine b_l_ne X (tgt := 29) d_M_step_22 d_M_step_23 (by decide) (fun _ => ?_) (fun h => absurd h c22)
  refine b_aload_n X d_M_step_29 0 rfl rfl ?_
  refine b_iload X d_M_step_30 4 rfl ?_
  refine b_aload_n X d_M_step_32 0 rfl rfl ?_
  refine b_get X fl_M_108 0 rfl (v := .int (xi σ 0 7)) rfl d_M_step_33 ?_
  refine b_icmp_le X (tgt := 44) d_M_step_36 (by decide) (fun h => absurd h c36) (fun _ => ?_)
  refine b_iload X d_M_step_39 4 rfl ?_
  refine b_goto X (tgt := 48) d_M_step_41 (by decide) ?_
  refine b_put X fl_M_108 pl_M_farthest 0 rfl rfl rfl (Nat.le_of_ble_eq_true rfl) (uWM_0_farthest G σ x6) d_M_step_48 ?_
  refine b_iload_n X d_M_step_51 2 rfl rfl ?_
  refine b_dS X cf_M_isRule ci_M_isRule ml_M_85 (ct_M_isRule G (wi σ 0 7 x6) x3) (As := [.int x3]) (rest := []) rfl (Nat.le_of_ble_eq_true rfl) ⟨Nat.le_of_ble_eq_true rfl, Nat.le_of_ble_eq_true rfl⟩ ⟨Nat.le_of_ble_eq_true rfl, Nat.le_of_ble_eq_true rfl⟩ rfl rfl d_M_step_52 ?_
  refine b_if_eq X (tgt := 116) d_M_step_55 (by decide) (fun _ => ?_) (fun h => absurd c55 h)
  refine b_iload X d_M_step_116 4 rfl ?_
  refine b_aload_n X d_M_step_118 0 rfl rfl ?_
  refine b_get X fl_M_105 0 rfl (v := .int (xi σ 0 3)) rfl d_M_step_119 ?_
  refine b_icmp_ge X (tgt := 173) d_M_step_122 (by decide) (fun h => absurd h c122) (fun _ => ?_)
  refine b_aload_n X d_M_step_125 0 rfl rfl ?_
  refine b_get X fl_M_29 0 rfl (v := .ref (xa σ 7)) rfl d_M_step_126 ?_
  refine b_iload X d_M_step_129 4 rfl ?_
  refine b_iald X 7 rfl (by decide) n131 e131 h131 d_M_step_131 ?_
  refine b_iload_n X d_M_step_132 2 rfl rfl ?_
  refine b_icmp_ne X (tgt := 173) d_M_step_133 (by decide) (fun h => absurd c133 h) (fun _ => ?_)
  refine b_lload X d_M_step_136 3 rfl ?_
  refine b_lconst X (v := 1) d_M_step_138 rfl ?_
  refine b_iload X d_M_step_139 4 rfl ?_
  refine b_iconst X (v := 1) d_M_step_141 (by decide) ?_
  refine b_iadd X d_M_step_142 ?_
  refine b_lshl X (v := (shlL 1 (x6 + 1))) d_M_step_143 rfl ?_
  refine b_lor X d_M_step_144 ?_
  refine b_lstore X (lv' := [(0, .ref (xa σ 0)), (1, .long x1), (3, .int x3), (4, .long (x4 ||| (shlL 1 (x6 + 1)))), (6, .int x6)]) d_M_step_145 (by decide) [1, 2, 3, 0, 4] rfl ?_
  refine b_aload_n X d_M_step_147 0 rfl rfl ?_
  refine b_iload X d_M_step_148 4 rfl ?_
  refine b_iconst X (v := 1) d_M_step_150 (by decide) ?_
  refine b_iadd X d_M_step_151 ?_
  refine b_aload_n X d_M_step_152 0 rfl rfl ?_
  refine b_get X fl_M_108 0 rfl (v := .int x6) rfl d_M_step_153 ?_
  refine b_icmp_le X (tgt := 166) d_M_step_156 (by decide) (fun h => absurd h c156) (fun _ => ?_)
  refine b_iload X d_M_step_159 4 rfl ?_
  refine b_iconst X (v := 1) d_M_step_161 (by decide) ?_
  refine b_iadd X d_M_step_162 ?_
  refine b_goto X (tgt := 170) d_M_step_163 (by decide) ?_
  refine b_put X fl_M_108 pl_M_farthest 0 rfl rfl rfl (Nat.le_of_ble_eq_true rfl) (uWM_0_farthest G (wi σ 0 7 x6) (x6 + 1)) d_M_step_170 ?_
  refine b_iinc X (lv' := [(0, .ref (xa σ 0)), (1, .long x1), (3, .int x3), (4, .long (x4 ||| (shlL 1 (x6 + 1)))), (6, .int (x6 + 1))]) d_M_step_173 4 rfl (v := (x6 + 1)) rfl (by decide) [1, 2, 3, 4, 0] rfl ?_
  refine b_goto X (tgt := 6) d_M_step_176 (by decide) ?_
  exact k
theorem sg_M_step_6_ftfft6 {K : KX} {G : GG} {w0 : va_W} {Q : State → Prop} (X : Bd K G w0 "FirstTreesModel" c_M_step 8 (some .long) rm_M_step) (σ : St) (x1 : Int64) (x3 : Int32) (x4 : Int64) (x6 : Int32) (n77 : Nat) (c12 : ¬ (xi σ 0 3) < x6) (c22 : ¬ ((shrL x1 x6) &&& 1) = 0) (c36 : ¬ x6 ≤ (xi σ 0 7)) (c55 : ¬ (b2i (x3 < 0)) = 0) (e77 : ((61 * ((-1) - x3)) + x6) = nI n77) (h77 : n77 < 976) (c93 : (xi σ 9 n77) ≤ x6) (k : Lb K G w0 Q 8 6 [(0, .ref (xa σ 0)), (1, .long x1), (3, .int x3), (4, .long (x4 ||| (xl σ 8 n77))), (6, .int (x6 + 1))] [] (WM G (wi (wi σ 0 7 x6) 0 7 x6)) 0 0) : Lb K G w0 Q 8 6 [(0, .ref (xa σ 0)), (1, .long x1), (3, .int x3), (4, .long x4), (6, .int x6)] [] (WM G σ) 0 0 := by
  refine b_iload X d_M_step_6 4 rfl ?_
  refine b_aload_n X d_M_step_8 0 rfl rfl ?_
  refine b_get X fl_M_105 0 rfl (v := .int (xi σ 0 3)) rfl d_M_step_9 ?_
  refine b_icmp_gt X (tgt := 179) d_M_step_12 (by decide) (fun h => absurd h c12) (fun _ => ?_)
  refine b_lload_n X d_M_step_15 1 rfl rfl ?_
  refine b_iload X d_M_step_16 4 rfl ?_
  refine b_lshr X (v := (shrL x1 x6)) d_M_step_18 rfl ?_
  refine b_lconst X (v := 1) d_M_step_19 rfl ?_
  refine b_land X d_M_step_20 ?_
  refine b_lconst X (v := 0) d_M_step_21 rfl ?_
  refine b_l_ne X (tgt := 29) d_M_step_22 d_M_step_23 (by decide) (fun _ => ?_) (fun h => absurd h c22)
  refine b_aload_n X d_M_step_29 0 rfl rfl ?_
  refine b_iload X d_M_step_30 4 rfl ?_
  refine b_aload_n X d_M_step_32 0 rfl rfl ?_
  refine b_get X fl_M_108 0 rfl (v := .int (xi σ 0 7)) rfl d_M_step_33 ?_
  refine b_icmp_le X (tgt := 44) d_M_step_36 (by decide) (fun h => absurd h c36) (fun _ => ?_)
  refine b_iload X d_M_step_39 4 rfl ?_
  refine b_goto X (tgt := 48) d_M_step_41 (by decide) ?_
  refine b_put X fl_M_108 pl_M_farthest 0 rfl rfl rfl (Nat.le_of_ble_eq_true rfl) (uWM_0_farthest G σ x6) d_M_step_48 ?_
  refine b_iload_n X d_M_step_51 2 rfl rfl ?_
  refine b_dS X cf_M_isRule ci_M_isRule ml_M_85 (ct_M_isRule G (wi σ 0 7 x6) x3) (As := [.int x3]) (rest := []) rfl (Nat.le_of_ble_eq_true rfl) ⟨Nat.le_of_ble_eq_true rfl, Nat.le_of_ble_eq_true rfl⟩ ⟨Nat.le_of_ble_eq_true rfl, Nat.le_of_ble_eq_true rfl⟩ rfl rfl d_M_step_52 ?_
  refine b_if_eq X (tgt := 116) d_M_step_55 (by decide) (fun h => absurd h c55) (fun _ => ?_)
  refine b_bipush X (v := 61) d_M_step_58 (by decide) ?_
  refine b_iconst X (v := (-1)) d_M_step_60 (by decide) ?_
  refine b_iload_n X d_M_step_61 2 rfl rfl ?_
  refine b_isub X d_M_step_62 ?_
  refine b_imul X d_M_step_63 ?_
  refine b_iload X d_M_step_64 4 rfl ?_
  refine b_iadd X d_M_step_66 ?_
  refine b_istore X (lv' := [(0, .ref (xa σ 0)), (1, .long x1), (3, .int x3), (4, .long x4), (6, .int x6), (7, .int ((61 * ((-1) - x3)) + x6))]) d_M_step_67 (by decide) [1, 2, 3, 4, 5, 0] rfl ?_
  refine b_lload X d_M_step_69 3 rfl ?_
  refine b_aload_n X d_M_step_71 0 rfl rfl ?_
  refine b_get X fl_M_32 0 rfl (v := .ref (xa σ 8)) rfl d_M_step_72 ?_
  refine b_iload X d_M_step_75 5 rfl ?_
  refine b_lald X 8 rfl (by decide) n77 e77 h77 d_M_step_77 ?_
  refine b_lor X d_M_step_78 ?_
  refine b_lstore X (lv' := [(0, .ref (xa σ 0)), (1, .long x1), (3, .int x3), (4, .long (x4 ||| (xl σ 8 n77))), (6, .int x6), (7, .int ((61 * ((-1) - x3)) + x6))]) d_M_step_79 (by decide) [1, 2, 3, 0, 4, 5] rfl ?_
  refine b_aload_n X d_M_step_81 0 rfl rfl ?_
  refine b_aload_n X d_M_step_82 0 rfl rfl ?_
  refine b_get X fl_M_36 0 rfl (v := .ref (xa σ 9)) rfl d_M_step_83 ?_
  refine b_iload X d_M_step_86 5 rfl ?_
  refine b_iald X 9 rfl (by decide) n77 e77 h77 d_M_step_88 ?_
  refine b_aload_n X d_M_step_89 0 rfl rfl ?_
  refine b_get X fl_M_108 0 rfl (v := .int x6) rfl d_M_step_90 ?_
  refine b_icmp_le X (tgt := 106) d_M_step_93 (by decide) (fun _ => ?_) (fun h => absurd c93 h)
  refine b_aload_n X d_M_step_106 0 rfl rfl ?_
  refine b_get X fl_M_108 0 rfl (v := .int x6) rfl d_M_step_107 ?_
  refine b_put X fl_M_108 pl_M_farthest 0 rfl rfl rfl (Nat.le_of_ble_eq_true rfl) (uWM_0_farthest G (wi σ 0 7 x6) x6) d_M_step_110 ?_
  refine b_goto X (tgt := 173) d_M_step_113 (by decide) ?_
  refine b_iinc X (lv' := [(0, .ref (xa σ 0)), (1, .long x1), (3, .int x3), (4, .long (x4 ||| (xl σ 8 n77))), (6, .int (x6 + 1)), (7, .int ((61 * ((-1) - x3)) + x6))]) d_M_step_173 4 rfl (v := (x6 + 1)) rfl (by decide) [1, 2, 3, 4, 0, 5] rfl ?_
  refine b_goto X (tgt := 6) d_M_step_176 (by decide) ?_
  refine Lb.pick (lv' := [(0, .ref (xa σ 0)), (1, .long x1), (3, .int x3), (4, .long (x4 ||| (xl σ 8 n77))), (6, .int (x6 + 1))]) [0, 1, 2, 3, 4] rfl ?_
  exact k
theorem sg_M_step_6_ftfff6 {K : KX} {G : GG} {w0 : va_W} {Q : State → Prop} (X : Bd K G w0 "FirstTreesModel" c_M_step 8 (some .long) rm_M_step) (σ : St) (x1 : Int64) (x3 : Int32) (x4 : Int64) (x6 : Int32) (n77 : Nat) (c12 : ¬ (xi σ 0 3) < x6) (c22 : ¬ ((shrL x1 x6) &&& 1) = 0) (c36 : ¬ x6 ≤ (xi σ 0 7)) (c55 : ¬ (b2i (x3 < 0)) = 0) (e77 : ((61 * ((-1) - x3)) + x6) = nI n77) (h77 : n77 < 976) (c93 : ¬ (xi σ 9 n77) ≤ x6) (k : Lb K G w0 Q 8 6 [(0, .ref (xa σ 0)), (1, .long x1), (3, .int x3), (4, .long (x4 ||| (xl σ 8 n77))), (6, .int (x6 + 1))] [] (WM G (wi (wi σ 0 7 x6) 0 7 (xi σ 9 n77))) 0 0) : Lb K G w0 Q 8 6 [(0, .ref (xa σ 0)), (1, .long x1), (3, .int x3), (4, .long x4), (6, .int x6)] [] (WM G σ) 0 0 := by
  refine b_iload X d_M_step_6 4 rfl ?_
  refine b_aload_n X d_M_step_8 0 rfl rfl ?_
  refine b_get X fl_M_105 0 rfl (v := .int (xi σ 0 3)) rfl d_M_step_9 ?_
  refine b_icmp_gt X (tgt := 179) d_M_step_12 (by decide) (fun h => absurd h c12) (fun _ => ?_)
  refine b_lload_n X d_M_step_15 1 rfl rfl ?_
  refine b_iload X d_M_step_16 4 rfl ?_
  refine b_lshr X (v := (shrL x1 x6)) d_M_step_18 rfl ?_
  refine b_lconst X (v := 1) d_M_step_19 rfl ?_
  refine b_land X d_M_step_20 ?_
  refine b_lconst X (v := 0) d_M_step_21 rfl ?_
  refine b_l_ne X (tgt := 29) d_M_step_22 d_M_step_23 (by decide) (fun _ => ?_) (fun h => absurd h c22)
  refine b_aload_n X d_M_step_29 0 rfl rfl ?_
  refine b_iload X d_M_step_30 4 rfl ?_
  refine b_aload_n X d_M_step_32 0 rfl rfl ?_
  refine b_get X fl_M_108 0 rfl (v := .int (xi σ 0 7)) rfl d_M_step_33 ?_
  refine b_icmp_le X (tgt := 44) d_M_step_36 (by decide) (fun h => absurd h c36) (fun _ => ?_)
  refine b_iload X d_M_step_39 4 rfl ?_
  refine b_goto X (tgt := 48) d_M_step_41 (by decide) ?_
  refine b_put X fl_M_108 pl_M_farthest 0 rfl rfl rfl (Nat.le_of_ble_eq_true rfl) (uWM_0_farthest G σ x6) d_M_step_48 ?_
  refine b_iload_n X d_M_step_51 2 rfl rfl ?_
  refine b_dS X cf_M_isRule ci_M_isRule ml_M_85 (ct_M_isRule G (wi σ 0 7 x6) x3) (As := [.int x3]) (rest := []) rfl (Nat.le_of_ble_eq_true rfl) ⟨Nat.le_of_ble_eq_true rfl, Nat.le_of_ble_eq_true rfl⟩ ⟨Nat.le_of_ble_eq_true rfl, Nat.le_of_ble_eq_true rfl⟩ rfl rfl d_M_step_52 ?_
  refine b_if_eq X (tgt := 116) d_M_step_55 (by decide) (fun h => absurd h c55) (fun _ => ?_)
  refine b_bipush X (v := 61) d_M_step_58 (by decide) ?_
  refine b_iconst X (v := (-1)) d_M_step_60 (by decide) ?_
  refine b_iload_n X d_M_step_61 2 rfl rfl ?_
  refine b_isub X d_M_step_62 ?_
  refine b_imul X d_M_step_63 ?_
  refine b_iload X d_M_step_64 4 rfl ?_
  refine b_iadd X d_M_step_66 ?_
  refine b_istore X (lv' := [(0, .ref (xa σ 0)), (1, .long x1), (3, .int x3), (4, .long x4), (6, .int x6), (7, .int ((61 * ((-1) - x3)) + x6))]) d_M_step_67 (by decide) [1, 2, 3, 4, 5, 0] rfl ?_
  refine b_lload X d_M_step_69 3 rfl ?_
  refine b_aload_n X d_M_step_71 0 rfl rfl ?_
  refine b_get X fl_M_32 0 rfl (v := .ref (xa σ 8)) rfl d_M_step_72 ?_
  refine b_iload X d_M_step_75 5 rfl ?_
  refine b_lald X 8 rfl (by decide) n77 e77 h77 d_M_step_77 ?_
  refine b_lor X d_M_step_78 ?_
  refine b_lstore X (lv' := [(0, .ref (xa σ 0)), (1, .long x1), (3, .int x3), (4, .long (x4 ||| (xl σ 8 n77))), (6, .int x6), (7, .int ((61 * ((-1) - x3)) + x6))]) d_M_step_79 (by decide) [1, 2, 3, 0, 4, 5] rfl ?_
  refine b_aload_n X d_M_step_81 0 rfl rfl ?_
  refine b_aload_n X d_M_step_82 0 rfl rfl ?_
  refine b_get X fl_M_36 0 rfl (v := .ref (xa σ 9)) rfl d_M_step_83 ?_
  refine b_iload X d_M_step_86 5 rfl ?_
  refine b_iald X 9 rfl (by decide) n77 e77 h77 d_M_step_88 ?_
  refine b_aload_n X d_M_step_89 0 rfl rfl ?_
  refine b_get X fl_M_108 0 rfl (v := .int x6) rfl d_M_step_90 ?_
  refine b_icmp_le X (tgt := 106) d_M_step_93 (by decide) (fun h => absurd h c93) (fun _ => ?_)
  refine b_aload_n X d_M_step_96 0 rfl rfl ?_
  refine b_get X fl_M_36 0 rfl (v := .ref (xa σ 9)) rfl d_M_step_97 ?_
  refine b_iload X d_M_step_100 5 rfl ?_
  refine b_iald X 9 rfl (by decide) n77 e77 h77 d_M_step_102 ?_
  refine b_goto X (tgt := 110) d_M_step_103 (by decide) ?_
  refine b_put X fl_M_108 pl_M_farthest 0 rfl rfl rfl (Nat.le_of_ble_eq_true rfl) (uWM_0_farthest G (wi σ 0 7 x6) (xi σ 9 n77)) d_M_step_110 ?_
  refine b_goto X (tgt := 173) d_M_step_113 (by decide) ?_
  refine b_iinc X (lv' := [(0, .ref (xa σ 0)), (1, .long x1), (3, .int x3), (4, .long (x4 ||| (xl σ 8 n77))), (6, .int (x6 + 1)), (7, .int ((61 * ((-1) - x3)) + x6))]) d_M_step_173 4 rfl (v := (x6 + 1)) rfl (by decide) [1, 2, 3, 4, 0, 5] rfl ?_
  refine b_goto X (tgt := 6) d_M_step_176 (by decide) ?_
  refine Lb.pick (lv' := [(0, .ref (xa σ 0)), (1, .long x1), (3, .int x3), (4, .long (x4 ||| (xl σ 8 n77))), (6, .int (x6 + 1))]) [0, 1, 2, 3, 4] rfl ?_
  exact k
theorem sg_M_step_6_ff6 {K : KX} {G : GG} {w0 : va_W} {Q : State → Prop} (X : Bd K G w0 "FirstTreesModel" c_M_step 8 (some .long) rm_M_step) (σ : St) (x1 : Int64) (x3 : Int32) (x4 : Int64) (x6 : Int32)  (c12 : ¬ (xi σ 0 3) < x6) (c22 : ((shrL x1 x6) &&& 1) = 0) (k : Lb K G w0 Q 8 6 [(0, .ref (xa σ 0)), (1, .long x1), (3, .int x3), (4, .long x4), (6, .int (x6 + 1))] [] (WM G σ) 0 0) : Lb K G w0 Q 8 6 [(0, .ref (xa σ 0)), (1, .long x1), (3, .int x3), (4, .long x4), (6, .int x6)] [] (WM G σ) 0 0 := by
  refine b_iload X d_M_step_6 4 rfl ?_
  refine b_aload_n X d_M_step_8 0 rfl rfl ?_
  refine b_get X fl_M_105 0 rfl (v := .int (xi σ 0 3)) rfl d_M_step_9 ?_
  refine b_icmp_gt X (tgt := 179) d_M_step_12 (by decide) (fun h => absurd h c12) (fun _ => ?_)
  refine b_lload_n X d_M_step_15 1 rfl rfl ?_
  refine b_iload X d_M_step_16 4 rfl ?_
  refine b_lshr X (v := (shrL x1 x6)) d_M_step_18 rfl ?_
  refine b_lconst X (v := 1) d_M_step_19 rfl ?_
  refine b_land X d_M_step_20 ?_
  refine b_lconst X (v := 0) d_M_step_21 rfl ?_
  refine b_l_ne X (tgt := 29) d_M_step_22 d_M_step_23 (by decide) (fun h => absurd c22 h) (fun _ => ?_)
  refine b_goto X (tgt := 173) d_M_step_26 (by decide) ?_
  refine b_iinc X (lv' := [(0, .ref (xa σ 0)), (1, .long x1), (3, .int x3), (4, .long x4), (6, .int (x6 + 1))]) d_M_step_173 4 rfl (v := (x6 + 1)) rfl (by decide) [1, 2, 3, 4, 0] rfl ?_
  refine b_goto X (tgt := 6) d_M_step_176 (by decide) ?_
  exact k
theorem sg_M_alongAlternative_0_6 {K : KX} {G : GG} {w0 : va_W} {Q : State → Prop} (X : Bd K G w0 "FirstTreesModel" c_M_alongAlternative 8 (some .long) rm_M_alongAlternative) (σ : St) (x1 : Int64) (x3 : Int32) (x4 : Int32)   (k : Lb K G w0 Q 8 6 [(0, .ref (xa σ 0)), (1, .long x1), (3, .int x3), (4, .int x4), (5, .long x1), (7, .int 0)] [] (WM G σ) 0 0) : Lb K G w0 Q 8 0 [(0, .ref (xa σ 0)), (1, .long x1), (3, .int x3), (4, .int x4)] [] (WM G σ) 0 0 := by
  refine b_lload_n X d_M_alongAlternative_0 1 rfl rfl ?_
  refine b_lstore X (lv' := [(0, .ref (xa σ 0)), (1, .long x1), (3, .int x3), (4, .int x4), (5, .long x1)]) d_M_alongAlternative_1 (by decide) [1, 2, 3, 4, 0] rfl ?_
  refine b_iconst X (v := 0) d_M_alongAlternative_3 (by decide) ?_
  refine b_istore X (lv' := [(0, .ref (xa σ 0)), (1, .long x1), (3, .int x3), (4, .int x4), (5, .long x1), (7, .int 0)]) d_M_alongAlternative_4 (by decide) [1, 2, 3, 4, 5, 0] rfl ?_
  exact k
theorem sg_M_alongAlternative_6_tr {K : KX} {G : GG} {w0 : va_W} {post : PostT} (X : Bd K G w0 "FirstTreesModel" c_M_alongAlternative 8 (some .long) rm_M_alongAlternative) (σ : St) (x1 : Int64) (x3 : Int32) (x4 : Int32) (x5 : Int64) (x7 : Int32) (n12 : Nat) (e12 : ((8 * x3) + x4) = nI n12) (h12 : n12 < 128) (c15 : (xi σ 2 n12) ≤ x7) (hp : post (some (.long x5)) (WM G σ)) : Lb K G w0 (Qe K G w0 post rm_M_alongAlternative) 8 6 [(0, .ref (xa σ 0)), (1, .long x1), (3, .int x3), (4, .int x4), (5, .long x5), (7, .int x7)] [] (WM G σ) 0 0 := by
  refine b_iload X d_M_alongAlternative_6 5 rfl ?_
  refine b_aload_n X d_M_alongAlternative_8 0 rfl rfl ?_
  refine b_iload_n X d_M_alongAlternative_9 2 rfl rfl ?_
  refine b_iload X d_M_alongAlternative_10 3 rfl ?_
  refine b_dV X cf_M_sizeOf ci_M_sizeOf ml_M_77 (ct_M_sizeOf_ G σ x3 x4 n12 e12 h12) 0 rfl rfl (As := [.int x3, .int x4]) (rest := [.int x7]) rfl (Nat.le_of_ble_eq_true rfl) ⟨Nat.le_of_ble_eq_true rfl, Nat.le_of_ble_eq_true rfl⟩ ⟨Nat.le_of_ble_eq_true rfl, Nat.le_of_ble_eq_true rfl⟩ rfl rfl d_M_alongAlternative_12 ?_
  refine b_icmp_ge X (tgt := 41) d_M_alongAlternative_15 (by decide) (fun _ => ?_) (fun h => absurd c15 h)
  refine b_lload X d_M_alongAlternative_41 4 rfl ?_
  exact b_lret X d_M_alongAlternative_43 hp
theorem sg_M_alongAlternative_6_f6 {K : KX} {G : GG} {w0 : va_W} {Q : State → Prop} (X : Bd K G w0 "FirstTreesModel" c_M_alongAlternative 8 (some .long) rm_M_alongAlternative) (σ : St) (x1 : Int64) (x3 : Int32) (x4 : Int32) (x5 : Int64) (x7 : Int32) (n12 : Nat) (n27 : Nat) (r30 : Int64) (q30 : Sq) (e12 : ((8 * x3) + x4) = nI n12) (h12 : n12 < 128) (c15 : ¬ (xi σ 2 n12) ≤ x7) (e27 : (((64 * x3) + (8 * x4)) + x7) = nI n27) (h27 : n27 < 1024) (t30 : Ct y_M_step c_M_step 8 (some .long) rm_M_step G [.ref (xa σ 0), .long x5, .int (xi σ 3 n27)] (WM G σ) (eqp (some (.long r30)) (WM G (xa σ, q30)))) (k : Lb K G w0 Q 8 6 [(0, .ref (xa σ 0)), (1, .long x1), (3, .int x3), (4, .int x4), (5, .long r30), (7, .int (x7 + 1))] [] (WM G (xa σ, q30)) 0 0) : Lb K G w0 Q 8 6 [(0, .ref (xa σ 0)), (1, .long x1), (3, .int x3), (4, .int x4), (5, .long x5), (7, .int x7)] [] (WM G σ) 0 0 := by
  refine b_iload X d_M_alongAlternative_6 5 rfl ?_
  refine b_aload_n X d_M_alongAlternative_8 0 rfl rfl ?_
  refine b_iload_n X d_M_alongAlternative_9 2 rfl rfl ?_
  refine b_iload X d_M_alongAlternative_10 3 rfl ?_
  refine b_dV X cf_M_sizeOf ci_M_sizeOf ml_M_77 (ct_M_sizeOf_ G σ x3 x4 n12 e12 h12) 0 rfl rfl (As := [.int x3, .int x4]) (rest := [.int x7]) rfl (Nat.le_of_ble_eq_true rfl) ⟨Nat.le_of_ble_eq_true rfl, Nat.le_of_ble_eq_true rfl⟩ ⟨Nat.le_of_ble_eq_true rfl, Nat.le_of_ble_eq_true rfl⟩ rfl rfl d_M_alongAlternative_12 ?_
  refine b_icmp_ge X (tgt := 41) d_M_alongAlternative_15 (by decide) (fun h => absurd h c15) (fun _ => ?_)
  refine b_aload_n X d_M_alongAlternative_18 0 rfl rfl ?_
  refine b_lload X d_M_alongAlternative_19 4 rfl ?_
  refine b_aload_n X d_M_alongAlternative_21 0 rfl rfl ?_
  refine b_iload_n X d_M_alongAlternative_22 2 rfl rfl ?_
  refine b_iload X d_M_alongAlternative_23 3 rfl ?_
  refine b_iload X d_M_alongAlternative_25 5 rfl ?_
  refine b_dV X cf_M_symbolAt ci_M_symbolAt ml_M_81 (ct_M_symbolAt_ G σ x3 x4 x7 n27 e27 h27) 0 rfl rfl (As := [.int x3, .int x4, .int x7]) (rest := [.long x5, .ref (xa σ 0)]) rfl (Nat.le_of_ble_eq_true rfl) ⟨Nat.le_of_ble_eq_true rfl, Nat.le_of_ble_eq_true rfl⟩ ⟨Nat.le_of_ble_eq_true rfl, Nat.le_of_ble_eq_true rfl⟩ rfl rfl d_M_alongAlternative_27 ?_
  refine b_dV X cf_M_step ci_M_step ml_M_111 t30 0 rfl rfl (As := [.long x5, .int (xi σ 3 n27)]) (rest := []) rfl (Nat.le_of_ble_eq_true rfl) ⟨Nat.le_of_ble_eq_true rfl, Nat.le_of_ble_eq_true rfl⟩ ⟨Nat.le_of_ble_eq_true rfl, Nat.le_of_ble_eq_true rfl⟩ rfl rfl d_M_alongAlternative_30 ?_
  refine b_lstore X (lv' := [(0, .ref (xa σ 0)), (1, .long x1), (3, .int x3), (4, .int x4), (5, .long r30), (7, .int x7)]) d_M_alongAlternative_33 (by decide) [1, 2, 3, 4, 0, 5] rfl ?_
  refine b_iinc X (lv' := [(0, .ref (xa σ 0)), (1, .long x1), (3, .int x3), (4, .int x4), (5, .long r30), (7, .int (x7 + 1))]) d_M_alongAlternative_35 5 rfl (v := (x7 + 1)) rfl (by decide) [1, 2, 3, 4, 5, 0] rfl ?_
  refine b_goto X (tgt := 6) d_M_alongAlternative_38 (by decide) ?_
  exact k
theorem sg_M_findPlaces_0_9 {K : KX} {G : GG} {w0 : va_W} {Q : State → Prop} (X : Bd K G w0 "FirstTreesModel" c_M_findPlaces 8 none rm_M_findPlaces) (σ : St)  (q1 : Sq) (t1 : Ct y_M_makeOrder c_M_makeOrder 7 none rm_M_makeOrder G [.ref (xa σ 0)] (WM G σ) (eqp (none) (WM G (xa σ, q1)))) (k : Lb K G w0 Q 8 9 [(0, .ref (xa σ 0)), (1, .int (xi (xa σ, q1) 0 3))] [] (WM G (xa σ, q1)) 0 0) : Lb K G w0 Q 8 0 [(0, .ref (xa σ 0))] [] (WM G σ) 0 0 := by
  refine b_aload_n X d_M_findPlaces_0 0 rfl rfl ?_
  refine b_dV X cf_M_makeOrder ci_M_makeOrder ml_M_115 t1 0 rfl rfl (As := []) (rest := []) rfl (Nat.le_of_ble_eq_true rfl) ⟨Nat.le_of_ble_eq_true rfl, Nat.le_of_ble_eq_true rfl⟩ ⟨Nat.le_of_ble_eq_true rfl, Nat.le_of_ble_eq_true rfl⟩ rfl rfl d_M_findPlaces_1 ?_
  refine b_aload_n X d_M_findPlaces_4 0 rfl rfl ?_
  refine b_get X fl_M_105 0 rfl (v := .int (xi (xa σ, q1) 0 3)) rfl d_M_findPlaces_5 ?_
  refine b_istore_n X (lv' := [(0, .ref (xa σ 0)), (1, .int (xi (xa σ, q1) 0 3))]) d_M_findPlaces_8 rfl (by decide) [1, 0] rfl ?_
  exact k
theorem sg_M_findPlaces_9_tr {K : KX} {G : GG} {w0 : va_W} {post : PostT} (X : Bd K G w0 "FirstTreesModel" c_M_findPlaces 8 none rm_M_findPlaces) (σ : St) (x1 : Int32)  (c10 : x1 < 0) (hp : post none (WM G σ)) : Lb K G w0 (Qe K G w0 post rm_M_findPlaces) 8 9 [(0, .ref (xa σ 0)), (1, .int x1)] [] (WM G σ) 0 0 := by
  refine b_iload_n X d_M_findPlaces_9 1 rfl rfl ?_
  refine b_if_lt X (tgt := 134) d_M_findPlaces_10 (by decide) (fun _ => ?_) (fun h => absurd c10 h)
  exact b_vret X d_M_findPlaces_134 hp
theorem sg_M_findPlaces_9_f15 {K : KX} {G : GG} {w0 : va_W} {Q : State → Prop} (X : Bd K G w0 "FirstTreesModel" c_M_findPlaces 8 none rm_M_findPlaces) (σ : St) (x1 : Int32)  (c10 : ¬ x1 < 0) (k : Lb K G w0 Q 8 15 [(0, .ref (xa σ 0)), (1, .int x1), (2, .int 0)] [] (WM G σ) 0 0) : Lb K G w0 Q 8 9 [(0, .ref (xa σ 0)), (1, .int x1)] [] (WM G σ) 0 0 := by
  refine b_iload_n X d_M_findPlaces_9 1 rfl rfl ?_
  refine b_if_lt X (tgt := 134) d_M_findPlaces_10 (by decide) (fun h => absurd h c10) (fun _ => ?_)
  refine b_iconst X (v := 0) d_M_findPlaces_13 (by decide) ?_
  refine b_istore_n X (lv' := [(0, .ref (xa σ 0)), (1, .int x1), (2, .int 0)]) d_M_findPlaces_14 rfl (by decide) [1, 2, 0] rfl ?_
  exact k
theorem sg_M_findPlaces_15_t9 {K : KX} {G : GG} {w0 : va_W} {Q : State → Prop} (X : Bd K G w0 "FirstTreesModel" c_M_findPlaces 8 none rm_M_findPlaces) (σ : St) (x1 : Int32) (x2 : Int32)  (c20 : (xi σ 0 1) ≤ x2) (k : Lb K G w0 Q 8 9 [(0, .ref (xa σ 0)), (1, .int (x1 + (-1)))] [] (WM G σ) 0 0) : Lb K G w0 Q 8 15 [(0, .ref (xa σ 0)), (1, .int x1), (2, .int x2)] [] (WM G σ) 0 0 := by
  refine b_iload_n X d_M_findPlaces_15 2 rfl rfl ?_
  refine b_aload_n X d_M_findPlaces_16 0 rfl rfl ?_
  refine b_get X fl_M_89 0 rfl (v := .int (xi σ 0 1)) rfl d_M_findPlaces_17 ?_
  refine b_icmp_ge X (tgt := 128) d_M_findPlaces_20 (by decide) (fun _ => ?_) (fun h => absurd c20 h)
  refine b_iinc X (lv' := [(0, .ref (xa σ 0)), (1, .int (x1 + (-1))), (2, .int x2)]) d_M_findPlaces_128 1 rfl (v := (x1 + (-1))) rfl (by decide) [1, 0, 2] rfl ?_
  refine b_goto X (tgt := 9) d_M_findPlaces_131 (by decide) ?_
  refine Lb.pick (lv' := [(0, .ref (xa σ 0)), (1, .int (x1 + (-1)))]) [0, 1] rfl ?_
  exact k
theorem sg_M_findPlaces_15_f39 {K : KX} {G : GG} {w0 : va_W} {Q : State → Prop} (X : Bd K G w0 "FirstTreesModel" c_M_findPlaces 8 none rm_M_findPlaces) (σ : St) (x1 : Int32) (x2 : Int32) (n28 : Nat) (c20 : ¬ (xi σ 0 1) ≤ x2) (e28 : x2 = nI n28) (h28 : n28 < 16) (k : Lb K G w0 Q 8 39 [(0, .ref (xa σ 0)), (1, .int x1), (2, .int x2), (3, .int (xi σ 6 n28)), (4, .long 0), (6, .int x1), (7, .int 0)] [] (WM G σ) 0 0) : Lb K G w0 Q 8 15 [(0, .ref (xa σ 0)), (1, .int x1), (2, .int x2)] [] (WM G σ) 0 0 := by
  refine b_iload_n X d_M_findPlaces_15 2 rfl rfl ?_
  refine b_aload_n X d_M_findPlaces_16 0 rfl rfl ?_
  refine b_get X fl_M_89 0 rfl (v := .int (xi σ 0 1)) rfl d_M_findPlaces_17 ?_
  refine b_icmp_ge X (tgt := 128) d_M_findPlaces_20 (by decide) (fun h => absurd h c20) (fun _ => ?_)
  refine b_aload_n X d_M_findPlaces_23 0 rfl rfl ?_
  refine b_get X fl_M_26 0 rfl (v := .ref (xa σ 6)) rfl d_M_findPlaces_24 ?_
  refine b_iload_n X d_M_findPlaces_27 2 rfl rfl ?_
  refine b_iald X 6 rfl (by decide) n28 e28 h28 d_M_findPlaces_28 ?_
  refine b_istore_n X (lv' := [(0, .ref (xa σ 0)), (1, .int x1), (2, .int x2), (3, .int (xi σ 6 n28))]) d_M_findPlaces_29 rfl (by decide) [1, 2, 3, 0] rfl ?_
  refine b_lconst X (v := 0) d_M_findPlaces_30 rfl ?_
  refine b_lstore X (lv' := [(0, .ref (xa σ 0)), (1, .int x1), (2, .int x2), (3, .int (xi σ 6 n28)), (4, .long 0)]) d_M_findPlaces_31 (by decide) [1, 2, 3, 4, 0] rfl ?_
  refine b_iload_n X d_M_findPlaces_33 1 rfl rfl ?_
  refine b_istore X (lv' := [(0, .ref (xa σ 0)), (1, .int x1), (2, .int x2), (3, .int (xi σ 6 n28)), (4, .long 0), (6, .int x1)]) d_M_findPlaces_34 (by decide) [1, 2, 3, 4, 5, 0] rfl ?_
  refine b_iconst X (v := 0) d_M_findPlaces_36 (by decide) ?_
  refine b_istore X (lv' := [(0, .ref (xa σ 0)), (1, .int x1), (2, .int x2), (3, .int (xi σ 6 n28)), (4, .long 0), (6, .int x1), (7, .int 0)]) d_M_findPlaces_37 (by decide) [1, 2, 3, 4, 5, 6, 0] rfl ?_
  exact k
theorem sg_M_findPlaces_39_t15 {K : KX} {G : GG} {w0 : va_W} {Q : State → Prop} (X : Bd K G w0 "FirstTreesModel" c_M_findPlaces 8 none rm_M_findPlaces) (σ : St) (x1 : Int32) (x2 : Int32) (x3 : Int32) (x4 : Int64) (x6 : Int32) (x7 : Int32) (n46 : Nat) (n108 : Nat) (e46 : x3 = nI n46) (h46 : n46 < 16) (c47 : (xi σ 1 n46) ≤ x7) (e108 : ((61 * x3) + x1) = nI n108) (h108 : n108 < 976) (k : Lb K G w0 Q 8 15 [(0, .ref (xa σ 0)), (1, .int x1), (2, .int (x2 + 1))] [] (WM G (wi (wl σ 8 n108 x4) 9 n108 x6)) 0 0) : Lb K G w0 Q 8 39 [(0, .ref (xa σ 0)), (1, .int x1), (2, .int x2), (3, .int x3), (4, .long x4), (6, .int x6), (7, .int x7)] [] (WM G σ) 0 0 := by
  refine b_iload X d_M_findPlaces_39 6 rfl ?_
  refine b_aload_n X d_M_findPlaces_41 0 rfl rfl ?_
  refine b_get X fl_M_7 0 rfl (v := .ref (xa σ 1)) rfl d_M_findPlaces_42 ?_
  refine b_iload_n X d_M_findPlaces_45 3 rfl rfl ?_
  refine b_iald X 1 rfl (by decide) n46 e46 h46 d_M_findPlaces_46 ?_
  refine b_icmp_ge X (tgt := 96) d_M_findPlaces_47 (by decide) (fun _ => ?_) (fun h => absurd c47 h)
  refine b_aload_n X d_M_findPlaces_96 0 rfl rfl ?_
  refine b_get X fl_M_32 0 rfl (v := .ref (xa σ 8)) rfl d_M_findPlaces_97 ?_
  refine b_bipush X (v := 61) d_M_findPlaces_100 (by decide) ?_
  refine b_iload_n X d_M_findPlaces_102 3 rfl rfl ?_
  refine b_imul X d_M_findPlaces_103 ?_
  refine b_iload_n X d_M_findPlaces_104 1 rfl rfl ?_
  refine b_iadd X d_M_findPlaces_105 ?_
  refine b_lload X d_M_findPlaces_106 4 rfl ?_
  refine b_last X 8 rfl (by decide) n108 e108 h108 (uWM_8 G σ n108 x4) d_M_findPlaces_108 ?_
  refine b_aload_n X d_M_findPlaces_109 0 rfl rfl ?_
  refine b_get X fl_M_36 0 rfl (v := .ref (xa σ 9)) rfl d_M_findPlaces_110 ?_
  refine b_bipush X (v := 61) d_M_findPlaces_113 (by decide) ?_
  refine b_iload_n X d_M_findPlaces_115 3 rfl rfl ?_
  refine b_imul X d_M_findPlaces_116 ?_
  refine b_iload_n X d_M_findPlaces_117 1 rfl rfl ?_
  refine b_iadd X d_M_findPlaces_118 ?_
  refine b_iload X d_M_findPlaces_119 5 rfl ?_
  refine b_iast X 9 rfl (by decide) n108 e108 h108 (uWM_9 G (wl σ 8 n108 x4) n108 x6) d_M_findPlaces_121 ?_
  refine b_iinc X (lv' := [(0, .ref (xa σ 0)), (1, .int x1), (2, .int (x2 + 1)), (3, .int x3), (4, .long x4), (6, .int x6), (7, .int x7)]) d_M_findPlaces_122 2 rfl (v := (x2 + 1)) rfl (by decide) [1, 2, 0, 3, 4, 5, 6] rfl ?_
  refine b_goto X (tgt := 15) d_M_findPlaces_125 (by decide) ?_
  refine Lb.pick (lv' := [(0, .ref (xa σ 0)), (1, .int x1), (2, .int (x2 + 1))]) [0, 1, 2] rfl ?_
  exact k
theorem sg_M_findPlaces_39_ft39 {K : KX} {G : GG} {w0 : va_W} {Q : State → Prop} (X : Bd K G w0 "FirstTreesModel" c_M_findPlaces 8 none rm_M_findPlaces) (σ : St) (x1 : Int32) (x2 : Int32) (x3 : Int32) (x4 : Int64) (x6 : Int32) (x7 : Int32) (n46 : Nat) (r64 : Int64) (q64 : Sq) (e46 : x3 = nI n46) (h46 : n46 < 16) (c47 : ¬ (xi σ 1 n46) ≤ x7) (t64 : Ct y_M_alongAlternative c_M_alongAlternative 8 (some .long) rm_M_alongAlternative G [.ref (xa σ 0), .long (shlL 1 x1), .int x3, .int x7] (WM G (wi σ 0 7 x1)) (eqp (some (.long r64)) (WM G (xa σ, q64)))) (c76 : (xi (xa σ, q64) 0 7) ≤ x6) (k : Lb K G w0 Q 8 39 [(0, .ref (xa σ 0)), (1, .int x1), (2, .int x2), (3, .int x3), (4, .long (x4 ||| r64)), (6, .int x6), (7, .int (x7 + 1))] [] (WM G (xa σ, q64)) 0 0) : Lb K G w0 Q 8 39 [(0, .ref (xa σ 0)), (1, .int x1), (2, .int x2), (3, .int x3), (4, .long x4), (6, .int x6), (7, .int x7)] [] (WM G σ) 0 0 := by
  refine b_iload X d_M_findPlaces_39 6 rfl ?_
  refine b_aload_n X d_M_findPlaces_41 0 rfl rfl ?_
  refine b_get X fl_M_7 0 rfl (v := .ref (xa σ 1)) rfl d_M_findPlaces_42 ?_
  refine b_iload_n X d_M_findPlaces_45 3 rfl rfl ?_
  refine b_iald X 1 rfl (by decide) n46 e46 h46 d_M_findPlaces_46 ?_
  refine b_icmp_ge X (tgt := 96) d_M_findPlaces_47 (by decide) (fun h => absurd h c47) (fun _ => ?_)
  refine b_aload_n X d_M_findPlaces_50 0 rfl rfl ?_
  refine b_iload_n X d_M_findPlaces_51 1 rfl rfl ?_
  refine b_put X fl_M_108 pl_M_farthest 0 rfl rfl rfl (Nat.le_of_ble_eq_true rfl) (uWM_0_farthest G σ x1) d_M_findPlaces_52 ?_
  refine b_lload X d_M_findPlaces_55 4 rfl ?_
  refine b_aload_n X d_M_findPlaces_57 0 rfl rfl ?_
  refine b_lconst X (v := 1) d_M_findPlaces_58 rfl ?_
  refine b_iload_n X d_M_findPlaces_59 1 rfl rfl ?_
  refine b_lshl X (v := (shlL 1 x1)) d_M_findPlaces_60 rfl ?_
  refine b_iload_n X d_M_findPlaces_61 3 rfl rfl ?_
  refine b_iload X d_M_findPlaces_62 6 rfl ?_
  refine b_dV X cf_M_alongAlternative ci_M_alongAlternative ml_M_118 t64 0 rfl rfl (As := [.long (shlL 1 x1), .int x3, .int x7]) (rest := [.long x4]) rfl (Nat.le_of_ble_eq_true rfl) ⟨Nat.le_of_ble_eq_true rfl, Nat.le_of_ble_eq_true rfl⟩ ⟨Nat.le_of_ble_eq_true rfl, Nat.le_of_ble_eq_true rfl⟩ rfl rfl d_M_findPlaces_64 ?_
  refine b_lor X d_M_findPlaces_67 ?_
  refine b_lstore X (lv' := [(0, .ref (xa σ 0)), (1, .int x1), (2, .int x2), (3, .int x3), (4, .long (x4 ||| r64)), (6, .int x6), (7, .int x7)]) d_M_findPlaces_68 (by decide) [1, 2, 3, 4, 0, 5, 6] rfl ?_
  refine b_aload_n X d_M_findPlaces_70 0 rfl rfl ?_
  refine b_get X fl_M_108 0 rfl (v := .int (xi (xa σ, q64) 0 7)) rfl d_M_findPlaces_71 ?_
  refine b_iload X d_M_findPlaces_74 5 rfl ?_
  refine b_icmp_le X (tgt := 86) d_M_findPlaces_76 (by decide) (fun _ => ?_) (fun h => absurd c76 h)
  refine b_iload X d_M_findPlaces_86 5 rfl ?_
  refine b_istore X (lv' := [(0, .ref (xa σ 0)), (1, .int x1), (2, .int x2), (3, .int x3), (4, .long (x4 ||| r64)), (6, .int x6), (7, .int x7)]) d_M_findPlaces_88 (by decide) [1, 2, 3, 4, 5, 0, 6] rfl ?_
  refine b_iinc X (lv' := [(0, .ref (xa σ 0)), (1, .int x1), (2, .int x2), (3, .int x3), (4, .long (x4 ||| r64)), (6, .int x6), (7, .int (x7 + 1))]) d_M_findPlaces_90 6 rfl (v := (x7 + 1)) rfl (by decide) [1, 2, 3, 4, 5, 6, 0] rfl ?_
  refine b_goto X (tgt := 39) d_M_findPlaces_93 (by decide) ?_
  exact k
theorem sg_M_findPlaces_39_ff39 {K : KX} {G : GG} {w0 : va_W} {Q : State → Prop} (X : Bd K G w0 "FirstTreesModel" c_M_findPlaces 8 none rm_M_findPlaces) (σ : St) (x1 : Int32) (x2 : Int32) (x3 : Int32) (x4 : Int64) (x6 : Int32) (x7 : Int32) (n46 : Nat) (r64 : Int64) (q64 : Sq) (e46 : x3 = nI n46) (h46 : n46 < 16) (c47 : ¬ (xi σ 1 n46) ≤ x7) (t64 : Ct y_M_alongAlternative c_M_alongAlternative 8 (some .long) rm_M_alongAlternative G [.ref (xa σ 0), .long (shlL 1 x1), .int x3, .int x7] (WM G (wi σ 0 7 x1)) (eqp (some (.long r64)) (WM G (xa σ, q64)))) (c76 : ¬ (xi (xa σ, q64) 0 7) ≤ x6) (k : Lb K G w0 Q 8 39 [(0, .ref (xa σ 0)), (1, .int x1), (2, .int x2), (3, .int x3), (4, .long (x4 ||| r64)), (6, .int (xi (xa σ, q64) 0 7)), (7, .int (x7 + 1))] [] (WM G (xa σ, q64)) 0 0) : Lb K G w0 Q 8 39 [(0, .ref (xa σ 0)), (1, .int x1), (2, .int x2), (3, .int x3), (4, .long x4), (6, .int x6), (7, .int x7)] [] (WM G σ) 0 0 := by
  refine b_iload X d_M_findPlaces_39 6 rfl ?_
  refine b_aload_n X d_M_findPlaces_41 0 rfl rfl ?_
  refine b_get X fl_M_7 0 rfl (v := .ref (xa σ 1)) rfl d_M_findPlaces_42 ?_
  refine b_iload_n X d_M_findPlaces_45 3 rfl rfl ?_
  refine b_iald X 1 rfl (by decide) n46 e46 h46 d_M_findPlaces_46 ?_
  refine b_icmp_ge X (tgt := 96) d_M_findPlaces_47 (by decide) (fun h => absurd h c47) (fun _ => ?_)
  refine b_aload_n X d_M_findPlaces_50 0 rfl rfl ?_
  refine b_iload_n X d_M_findPlaces_51 1 rfl rfl ?_
  refine b_put X fl_M_108 pl_M_farthest 0 rfl rfl rfl (Nat.le_of_ble_eq_true rfl) (uWM_0_farthest G σ x1) d_M_findPlaces_52 ?_
  refine b_lload X d_M_findPlaces_55 4 rfl ?_
  refine b_aload_n X d_M_findPlaces_57 0 rfl rfl ?_
  refine b_lconst X (v := 1) d_M_findPlaces_58 rfl ?_
  refine b_iload_n X d_M_findPlaces_59 1 rfl rfl ?_
  refine b_lshl X (v := (shlL 1 x1)) d_M_findPlaces_60 rfl ?_
  refine b_iload_n X d_M_findPlaces_61 3 rfl rfl ?_
  refine b_iload X d_M_findPlaces_62 6 rfl ?_
  refine b_dV X cf_M_alongAlternative ci_M_alongAlternative ml_M_118 t64 0 rfl rfl (As := [.long (shlL 1 x1), .int x3, .int x7]) (rest := [.long x4]) rfl (Nat.le_of_ble_eq_true rfl) ⟨Nat.le_of_ble_eq_true rfl, Nat.le_of_ble_eq_true rfl⟩ ⟨Nat.le_of_ble_eq_true rfl, Nat.le_of_ble_eq_true rfl⟩ rfl rfl d_M_findPlaces_64 ?_
  refine b_lor X d_M_findPlaces_67 ?_
  refine b_lstore X (lv' := [(0, .ref (xa σ 0)), (1, .int x1), (2, .int x2), (3, .int x3), (4, .long (x4 ||| r64)), (6, .int x6), (7, .int x7)]) d_M_findPlaces_68 (by decide) [1, 2, 3, 4, 0, 5, 6] rfl ?_
  refine b_aload_n X d_M_findPlaces_70 0 rfl rfl ?_
  refine b_get X fl_M_108 0 rfl (v := .int (xi (xa σ, q64) 0 7)) rfl d_M_findPlaces_71 ?_
  refine b_iload X d_M_findPlaces_74 5 rfl ?_
  refine b_icmp_le X (tgt := 86) d_M_findPlaces_76 (by decide) (fun h => absurd h c76) (fun _ => ?_)
  refine b_aload_n X d_M_findPlaces_79 0 rfl rfl ?_
  refine b_get X fl_M_108 0 rfl (v := .int (xi (xa σ, q64) 0 7)) rfl d_M_findPlaces_80 ?_
  refine b_goto X (tgt := 88) d_M_findPlaces_83 (by decide) ?_
  refine b_istore X (lv' := [(0, .ref (xa σ 0)), (1, .int x1), (2, .int x2), (3, .int x3), (4, .long (x4 ||| r64)), (6, .int (xi (xa σ, q64) 0 7)), (7, .int x7)]) d_M_findPlaces_88 (by decide) [1, 2, 3, 4, 5, 0, 6] rfl ?_
  refine b_iinc X (lv' := [(0, .ref (xa σ 0)), (1, .int x1), (2, .int x2), (3, .int x3), (4, .long (x4 ||| r64)), (6, .int (xi (xa σ, q64) 0 7)), (7, .int (x7 + 1))]) d_M_findPlaces_90 6 rfl (v := (x7 + 1)) rfl (by decide) [1, 2, 3, 4, 5, 6, 0] rfl ?_
  refine b_goto X (tgt := 39) d_M_findPlaces_93 (by decide) ?_
  exact k
theorem sg_M_findWays_0_5 {K : KX} {G : GG} {w0 : va_W} {Q : State → Prop} (X : Bd K G w0 "FirstTreesModel" c_M_findWays 7 none rm_M_findWays) (σ : St)    (k : Lb K G w0 Q 7 5 [(0, .ref (xa σ 0)), (1, .int (xi σ 0 3))] [] (WM G σ) 0 0) : Lb K G w0 Q 7 0 [(0, .ref (xa σ 0))] [] (WM G σ) 0 0 := by
  refine b_aload_n X d_M_findWays_0 0 rfl rfl ?_
  refine b_get X fl_M_105 0 rfl (v := .int (xi σ 0 3)) rfl d_M_findWays_1 ?_
  refine b_istore_n X (lv' := [(0, .ref (xa σ 0)), (1, .int (xi σ 0 3))]) d_M_findWays_4 rfl (by decide) [1, 0] rfl ?_
  exact k
theorem sg_M_findWays_5_tr {K : KX} {G : GG} {w0 : va_W} {post : PostT} (X : Bd K G w0 "FirstTreesModel" c_M_findWays 7 none rm_M_findWays) (σ : St) (x1 : Int32)  (c6 : x1 < 0) (hp : post none (WM G σ)) : Lb K G w0 (Qe K G w0 post rm_M_findWays) 7 5 [(0, .ref (xa σ 0)), (1, .int x1)] [] (WM G σ) 0 0 := by
  refine b_iload_n X d_M_findWays_5 1 rfl rfl ?_
  refine b_if_lt X (tgt := 168) d_M_findWays_6 (by decide) (fun _ => ?_) (fun h => absurd c6 h)
  exact b_vret X d_M_findWays_168 hp
theorem sg_M_findWays_5_f11 {K : KX} {G : GG} {w0 : va_W} {Q : State → Prop} (X : Bd K G w0 "FirstTreesModel" c_M_findWays 7 none rm_M_findWays) (σ : St) (x1 : Int32)  (c6 : ¬ x1 < 0) (k : Lb K G w0 Q 7 11 [(0, .ref (xa σ 0)), (1, .int x1), (2, .int 0)] [] (WM G σ) 0 0) : Lb K G w0 Q 7 5 [(0, .ref (xa σ 0)), (1, .int x1)] [] (WM G σ) 0 0 := by
  refine b_iload_n X d_M_findWays_5 1 rfl rfl ?_
  refine b_if_lt X (tgt := 168) d_M_findWays_6 (by decide) (fun h => absurd h c6) (fun _ => ?_)
  refine b_iconst X (v := 0) d_M_findWays_9 (by decide) ?_
  refine b_istore_n X (lv' := [(0, .ref (xa σ 0)), (1, .int x1), (2, .int 0)]) d_M_findWays_10 rfl (by decide) [1, 2, 0] rfl ?_
  exact k
theorem sg_M_findWays_11_t5 {K : KX} {G : GG} {w0 : va_W} {Q : State → Prop} (X : Bd K G w0 "FirstTreesModel" c_M_findWays 7 none rm_M_findWays) (σ : St) (x1 : Int32) (x2 : Int32)  (c16 : (xi σ 0 1) ≤ x2) (k : Lb K G w0 Q 7 5 [(0, .ref (xa σ 0)), (1, .int (x1 + (-1)))] [] (WM G σ) 0 0) : Lb K G w0 Q 7 11 [(0, .ref (xa σ 0)), (1, .int x1), (2, .int x2)] [] (WM G σ) 0 0 := by
  refine b_iload_n X d_M_findWays_11 2 rfl rfl ?_
  refine b_aload_n X d_M_findWays_12 0 rfl rfl ?_
  refine b_get X fl_M_89 0 rfl (v := .int (xi σ 0 1)) rfl d_M_findWays_13 ?_
  refine b_icmp_ge X (tgt := 162) d_M_findWays_16 (by decide) (fun _ => ?_) (fun h => absurd c16 h)
  refine b_iinc X (lv' := [(0, .ref (xa σ 0)), (1, .int (x1 + (-1))), (2, .int x2)]) d_M_findWays_162 1 rfl (v := (x1 + (-1))) rfl (by decide) [1, 0, 2] rfl ?_
  refine b_goto X (tgt := 5) d_M_findWays_165 (by decide) ?_
  refine Lb.pick (lv' := [(0, .ref (xa σ 0)), (1, .int (x1 + (-1)))]) [0, 1] rfl ?_
  exact k
theorem sg_M_findWays_11_f40 {K : KX} {G : GG} {w0 : va_W} {Q : State → Prop} (X : Bd K G w0 "FirstTreesModel" c_M_findWays 7 none rm_M_findWays) (σ : St) (x1 : Int32) (x2 : Int32) (n24 : Nat) (c16 : ¬ (xi σ 0 1) ≤ x2) (e24 : x2 = nI n24) (h24 : n24 < 16) (k : Lb K G w0 Q 7 40 [(0, .ref (xa σ 0)), (1, .int x1), (2, .int x2), (3, .int (xi σ 6 n24)), (4, .int (61 * ((61 * (xi σ 6 n24)) + x1))), (5, .int 0)] [] (WM G σ) 0 0) : Lb K G w0 Q 7 11 [(0, .ref (xa σ 0)), (1, .int x1), (2, .int x2)] [] (WM G σ) 0 0 := by
  refine b_iload_n X d_M_findWays_11 2 rfl rfl ?_
  refine b_aload_n X d_M_findWays_12 0 rfl rfl ?_
  refine b_get X fl_M_89 0 rfl (v := .int (xi σ 0 1)) rfl d_M_findWays_13 ?_
  refine b_icmp_ge X (tgt := 162) d_M_findWays_16 (by decide) (fun h => absurd h c16) (fun _ => ?_)
  refine b_aload_n X d_M_findWays_19 0 rfl rfl ?_
  refine b_get X fl_M_26 0 rfl (v := .ref (xa σ 6)) rfl d_M_findWays_20 ?_
  refine b_iload_n X d_M_findWays_23 2 rfl rfl ?_
  refine b_iald X 6 rfl (by decide) n24 e24 h24 d_M_findWays_24 ?_
  refine b_istore_n X (lv' := [(0, .ref (xa σ 0)), (1, .int x1), (2, .int x2), (3, .int (xi σ 6 n24))]) d_M_findWays_25 rfl (by decide) [1, 2, 3, 0] rfl ?_
  refine b_bipush X (v := 61) d_M_findWays_26 (by decide) ?_
  refine b_bipush X (v := 61) d_M_findWays_28 (by decide) ?_
  refine b_iload_n X d_M_findWays_30 3 rfl rfl ?_
  refine b_imul X d_M_findWays_31 ?_
  refine b_iload_n X d_M_findWays_32 1 rfl rfl ?_
  refine b_iadd X d_M_findWays_33 ?_
  refine b_imul X d_M_findWays_34 ?_
  refine b_istore X (lv' := [(0, .ref (xa σ 0)), (1, .int x1), (2, .int x2), (3, .int (xi σ 6 n24)), (4, .int (61 * ((61 * (xi σ 6 n24)) + x1)))]) d_M_findWays_35 (by decide) [1, 2, 3, 4, 0] rfl ?_
  refine b_iconst X (v := 0) d_M_findWays_37 (by decide) ?_
  refine b_istore X (lv' := [(0, .ref (xa σ 0)), (1, .int x1), (2, .int x2), (3, .int (xi σ 6 n24)), (4, .int (61 * ((61 * (xi σ 6 n24)) + x1))), (5, .int 0)]) d_M_findWays_38 (by decide) [1, 2, 3, 4, 5, 0] rfl ?_
  exact k
theorem sg_M_findWays_40_t67 {K : KX} {G : GG} {w0 : va_W} {Q : State → Prop} (X : Bd K G w0 "FirstTreesModel" c_M_findWays 7 none rm_M_findWays) (σ : St) (x1 : Int32) (x2 : Int32) (x3 : Int32) (x4 : Int32) (x5 : Int32)  (c44 : 60 < x5) (k : Lb K G w0 Q 7 67 [(0, .ref (xa σ 0)), (1, .int x1), (2, .int x2), (3, .int x3), (4, .int x4), (5, .int 0)] [] (WM G σ) 0 0) : Lb K G w0 Q 7 40 [(0, .ref (xa σ 0)), (1, .int x1), (2, .int x2), (3, .int x3), (4, .int x4), (5, .int x5)] [] (WM G σ) 0 0 := by
  refine b_iload X d_M_findWays_40 5 rfl ?_
  refine b_bipush X (v := 60) d_M_findWays_42 (by decide) ?_
  refine b_icmp_gt X (tgt := 64) d_M_findWays_44 (by decide) (fun _ => ?_) (fun h => absurd c44 h)
  refine b_iconst X (v := 0) d_M_findWays_64 (by decide) ?_
  refine b_istore X (lv' := [(0, .ref (xa σ 0)), (1, .int x1), (2, .int x2), (3, .int x3), (4, .int x4), (5, .int 0)]) d_M_findWays_65 (by decide) [1, 2, 3, 4, 5, 0] rfl ?_
  exact k
theorem sg_M_findWays_40_f40 {K : KX} {G : GG} {w0 : va_W} {Q : State → Prop} (X : Bd K G w0 "FirstTreesModel" c_M_findWays 7 none rm_M_findWays) (σ : St) (x1 : Int32) (x2 : Int32) (x3 : Int32) (x4 : Int32) (x5 : Int32) (n57 : Nat) (c44 : ¬ 60 < x5) (e57 : (x4 + x5) = nI n57) (h57 : n57 < 59536) (k : Lb K G w0 Q 7 40 [(0, .ref (xa σ 0)), (1, .int x1), (2, .int x2), (3, .int x3), (4, .int x4), (5, .int (x5 + 1))] [] (WM G (wl σ 11 n57 0)) 0 0) : Lb K G w0 Q 7 40 [(0, .ref (xa σ 0)), (1, .int x1), (2, .int x2), (3, .int x3), (4, .int x4), (5, .int x5)] [] (WM G σ) 0 0 := by
  refine b_iload X d_M_findWays_40 5 rfl ?_
  refine b_bipush X (v := 60) d_M_findWays_42 (by decide) ?_
  refine b_icmp_gt X (tgt := 64) d_M_findWays_44 (by decide) (fun h => absurd h c44) (fun _ => ?_)
  refine b_aload_n X d_M_findWays_47 0 rfl rfl ?_
  refine b_get X fl_M_43 0 rfl (v := .ref (xa σ 11)) rfl d_M_findWays_48 ?_
  refine b_iload X d_M_findWays_51 4 rfl ?_
  refine b_iload X d_M_findWays_53 5 rfl ?_
  refine b_iadd X d_M_findWays_55 ?_
  refine b_lconst X (v := 0) d_M_findWays_56 rfl ?_
  refine b_last X 11 rfl (by decide) n57 e57 h57 (uWM_11 G σ n57 0) d_M_findWays_57 ?_
  refine b_iinc X (lv' := [(0, .ref (xa σ 0)), (1, .int x1), (2, .int x2), (3, .int x3), (4, .int x4), (5, .int (x5 + 1))]) d_M_findWays_58 5 rfl (v := (x5 + 1)) rfl (by decide) [1, 2, 3, 4, 5, 0] rfl ?_
  refine b_goto X (tgt := 40) d_M_findWays_61 (by decide) ?_
  exact k
theorem sg_M_findWays_67_t11 {K : KX} {G : GG} {w0 : va_W} {Q : State → Prop} (X : Bd K G w0 "FirstTreesModel" c_M_findWays 7 none rm_M_findWays) (σ : St) (x1 : Int32) (x2 : Int32) (x3 : Int32) (x4 : Int32) (x5 : Int32) (n74 : Nat) (e74 : x3 = nI n74) (h74 : n74 < 16) (c75 : (xi σ 1 n74) ≤ x5) (k : Lb K G w0 Q 7 11 [(0, .ref (xa σ 0)), (1, .int x1), (2, .int (x2 + 1))] [] (WM G σ) 0 0) : Lb K G w0 Q 7 67 [(0, .ref (xa σ 0)), (1, .int x1), (2, .int x2), (3, .int x3), (4, .int x4), (5, .int x5)] [] (WM G σ) 0 0 := by
  refine b_iload X d_M_findWays_67 5 rfl ?_
  refine b_aload_n X d_M_findWays_69 0 rfl rfl ?_
  refine b_get X fl_M_7 0 rfl (v := .ref (xa σ 1)) rfl d_M_findWays_70 ?_
  refine b_iload_n X d_M_findWays_73 3 rfl rfl ?_
  refine b_iald X 1 rfl (by decide) n74 e74 h74 d_M_findWays_74 ?_
  refine b_icmp_ge X (tgt := 156) d_M_findWays_75 (by decide) (fun _ => ?_) (fun h => absurd c75 h)
  refine b_iinc X (lv' := [(0, .ref (xa σ 0)), (1, .int x1), (2, .int (x2 + 1)), (3, .int x3), (4, .int x4), (5, .int x5)]) d_M_findWays_156 2 rfl (v := (x2 + 1)) rfl (by decide) [1, 2, 0, 3, 4, 5] rfl ?_
  refine b_goto X (tgt := 11) d_M_findWays_159 (by decide) ?_
  refine Lb.pick (lv' := [(0, .ref (xa σ 0)), (1, .int x1), (2, .int (x2 + 1))]) [0, 1, 2] rfl ?_
  exact k
theorem sg_M_findWays_67_ft67 {K : KX} {G : GG} {w0 : va_W} {Q : State → Prop} (X : Bd K G w0 "FirstTreesModel" c_M_findWays 7 none rm_M_findWays) (σ : St) (x1 : Int32) (x2 : Int32) (x3 : Int32) (x4 : Int32) (x5 : Int32) (n74 : Nat) (r85 : Int64) (q85 : Sq) (e74 : x3 = nI n74) (h74 : n74 < 16) (c75 : ¬ (xi σ 1 n74) ≤ x5) (t85 : Ct y_M_alongAlternative c_M_alongAlternative 8 (some .long) rm_M_alongAlternative G [.ref (xa σ 0), .long (shlL 1 x1), .int x3, .int x5] (WM G σ) (eqp (some (.long r85)) (WM G (xa σ, q85)))) (c89 : r85 = 0) (k : Lb K G w0 Q 7 67 [(0, .ref (xa σ 0)), (1, .int x1), (2, .int x2), (3, .int x3), (4, .int x4), (5, .int (x5 + 1))] [] (WM G (xa σ, q85)) 0 0) : Lb K G w0 Q 7 67 [(0, .ref (xa σ 0)), (1, .int x1), (2, .int x2), (3, .int x3), (4, .int x4), (5, .int x5)] [] (WM G σ) 0 0 := by
  refine b_iload X d_M_findWays_67 5 rfl ?_
  refine b_aload_n X d_M_findWays_69 0 rfl rfl ?_
  refine b_get X fl_M_7 0 rfl (v := .ref (xa σ 1)) rfl d_M_findWays_70 ?_
  refine b_iload_n X d_M_findWays_73 3 rfl rfl ?_
  refine b_iald X 1 rfl (by decide) n74 e74 h74 d_M_findWays_74 ?_
  refine b_icmp_ge X (tgt := 156) d_M_findWays_75 (by decide) (fun h => absurd h c75) (fun _ => ?_)
  refine b_aload_n X d_M_findWays_78 0 rfl rfl ?_
  refine b_lconst X (v := 1) d_M_findWays_79 rfl ?_
  refine b_iload_n X d_M_findWays_80 1 rfl rfl ?_
  refine b_lshl X (v := (shlL 1 x1)) d_M_findWays_81 rfl ?_
  refine b_iload_n X d_M_findWays_82 3 rfl rfl ?_
  refine b_iload X d_M_findWays_83 5 rfl ?_
  refine b_dV X cf_M_alongAlternative ci_M_alongAlternative ml_M_118 t85 0 rfl rfl (As := [.long (shlL 1 x1), .int x3, .int x5]) (rest := []) rfl (Nat.le_of_ble_eq_true rfl) ⟨Nat.le_of_ble_eq_true rfl, Nat.le_of_ble_eq_true rfl⟩ ⟨Nat.le_of_ble_eq_true rfl, Nat.le_of_ble_eq_true rfl⟩ rfl rfl d_M_findWays_85 ?_
  refine b_lconst X (v := 0) d_M_findWays_88 rfl ?_
  refine b_l_eq X (tgt := 150) d_M_findWays_89 d_M_findWays_90 (by decide) (fun _ => ?_) (fun h => absurd c89 h)
  refine b_iinc X (lv' := [(0, .ref (xa σ 0)), (1, .int x1), (2, .int x2), (3, .int x3), (4, .int x4), (5, .int (x5 + 1))]) d_M_findWays_150 5 rfl (v := (x5 + 1)) rfl (by decide) [1, 2, 3, 4, 5, 0] rfl ?_
  refine b_goto X (tgt := 67) d_M_findWays_153 (by decide) ?_
  exact k
theorem sg_M_findWays_67_ff104 {K : KX} {G : GG} {w0 : va_W} {Q : State → Prop} (X : Bd K G w0 "FirstTreesModel" c_M_findWays 7 none rm_M_findWays) (σ : St) (x1 : Int32) (x2 : Int32) (x3 : Int32) (x4 : Int32) (x5 : Int32) (n74 : Nat) (r85 : Int64) (q85 : Sq) (q98 : Sq) (e74 : x3 = nI n74) (h74 : n74 < 16) (c75 : ¬ (xi σ 1 n74) ≤ x5) (t85 : Ct y_M_alongAlternative c_M_alongAlternative 8 (some .long) rm_M_alongAlternative G [.ref (xa σ 0), .long (shlL 1 x1), .int x3, .int x5] (WM G σ) (eqp (some (.long r85)) (WM G (xa σ, q85)))) (c89 : ¬ r85 = 0) (t98 : Ct y_M_waysAlong c_M_waysAlong 11 none rm_M_waysAlong G [.ref (xa σ 0), .int x3, .int x5, .int x1] (WM G (xa σ, q85)) (eqp (none) (WM G (xa σ, q98)))) (k : Lb K G w0 Q 7 104 [(0, .ref (xa σ 0)), (1, .int x1), (2, .int x2), (3, .int x3), (4, .int x4), (5, .int x5), (6, .int x1)] [] (WM G (xa σ, q98)) 0 0) : Lb K G w0 Q 7 67 [(0, .ref (xa σ 0)), (1, .int x1), (2, .int x2), (3, .int x3), (4, .int x4), (5, .int x5)] [] (WM G σ) 0 0 := by
  refine b_iload X d_M_findWays_67 5 rfl ?_
  refine b_aload_n X d_M_findWays_69 0 rfl rfl ?_
  refine b_get X fl_M_7 0 rfl (v := .ref (xa σ 1)) rfl d_M_findWays_70 ?_
  refine b_iload_n X d_M_findWays_73 3 rfl rfl ?_
  refine b_iald X 1 rfl (by decide) n74 e74 h74 d_M_findWays_74 ?_
  refine b_icmp_ge X (tgt := 156) d_M_findWays_75 (by decide) (fun h => absurd h c75) (fun _ => ?_)
  refine b_aload_n X d_M_findWays_78 0 rfl rfl ?_
  refine b_lconst X (v := 1) d_M_findWays_79 rfl ?_
  refine b_iload_n X d_M_findWays_80 1 rfl rfl ?_
  refine b_lshl X (v := (shlL 1 x1)) d_M_findWays_81 rfl ?_
  refine b_iload_n X d_M_findWays_82 3 rfl rfl ?_
  refine b_iload X d_M_findWays_83 5 rfl ?_
  refine b_dV X cf_M_alongAlternative ci_M_alongAlternative ml_M_118 t85 0 rfl rfl (As := [.long (shlL 1 x1), .int x3, .int x5]) (rest := []) rfl (Nat.le_of_ble_eq_true rfl) ⟨Nat.le_of_ble_eq_true rfl, Nat.le_of_ble_eq_true rfl⟩ ⟨Nat.le_of_ble_eq_true rfl, Nat.le_of_ble_eq_true rfl⟩ rfl rfl d_M_findWays_85 ?_
  refine b_lconst X (v := 0) d_M_findWays_88 rfl ?_
  refine b_l_eq X (tgt := 150) d_M_findWays_89 d_M_findWays_90 (by decide) (fun h => absurd h c89) (fun _ => ?_)
  refine b_aload_n X d_M_findWays_93 0 rfl rfl ?_
  refine b_iload_n X d_M_findWays_94 3 rfl rfl ?_
  refine b_iload X d_M_findWays_95 5 rfl ?_
  refine b_iload_n X d_M_findWays_97 1 rfl rfl ?_
  refine b_dV X cf_M_waysAlong ci_M_waysAlong ml_M_124 t98 0 rfl rfl (As := [.int x3, .int x5, .int x1]) (rest := []) rfl (Nat.le_of_ble_eq_true rfl) ⟨Nat.le_of_ble_eq_true rfl, Nat.le_of_ble_eq_true rfl⟩ ⟨Nat.le_of_ble_eq_true rfl, Nat.le_of_ble_eq_true rfl⟩ rfl rfl d_M_findWays_98 ?_
  refine b_iload_n X d_M_findWays_101 1 rfl rfl ?_
  refine b_istore X (lv' := [(0, .ref (xa σ 0)), (1, .int x1), (2, .int x2), (3, .int x3), (4, .int x4), (5, .int x5), (6, .int x1)]) d_M_findWays_102 (by decide) [1, 2, 3, 4, 5, 6, 0] rfl ?_
  exact k
theorem sg_M_findWays_104_t67 {K : KX} {G : GG} {w0 : va_W} {Q : State → Prop} (X : Bd K G w0 "FirstTreesModel" c_M_findWays 7 none rm_M_findWays) (σ : St) (x1 : Int32) (x2 : Int32) (x3 : Int32) (x4 : Int32) (x5 : Int32) (x6 : Int32)  (c110 : (xi σ 0 3) < x6) (k : Lb K G w0 Q 7 67 [(0, .ref (xa σ 0)), (1, .int x1), (2, .int x2), (3, .int x3), (4, .int x4), (5, .int (x5 + 1))] [] (WM G σ) 0 0) : Lb K G w0 Q 7 104 [(0, .ref (xa σ 0)), (1, .int x1), (2, .int x2), (3, .int x3), (4, .int x4), (5, .int x5), (6, .int x6)] [] (WM G σ) 0 0 := by
  refine b_iload X d_M_findWays_104 6 rfl ?_
  refine b_aload_n X d_M_findWays_106 0 rfl rfl ?_
  refine b_get X fl_M_105 0 rfl (v := .int (xi σ 0 3)) rfl d_M_findWays_107 ?_
  refine b_icmp_gt X (tgt := 150) d_M_findWays_110 (by decide) (fun _ => ?_) (fun h => absurd c110 h)
  refine b_iinc X (lv' := [(0, .ref (xa σ 0)), (1, .int x1), (2, .int x2), (3, .int x3), (4, .int x4), (5, .int (x5 + 1)), (6, .int x6)]) d_M_findWays_150 5 rfl (v := (x5 + 1)) rfl (by decide) [1, 2, 3, 4, 5, 0, 6] rfl ?_
  refine b_goto X (tgt := 67) d_M_findWays_153 (by decide) ?_
  refine Lb.pick (lv' := [(0, .ref (xa σ 0)), (1, .int x1), (2, .int x2), (3, .int x3), (4, .int x4), (5, .int (x5 + 1))]) [0, 1, 2, 3, 4, 5] rfl ?_
  exact k
theorem sg_M_findWays_104_f104 {K : KX} {G : GG} {w0 : va_W} {Q : State → Prop} (X : Bd K G w0 "FirstTreesModel" c_M_findWays 7 none rm_M_findWays) (σ : St) (x1 : Int32) (x2 : Int32) (x3 : Int32) (x4 : Int32) (x5 : Int32) (x6 : Int32) (n131 : Nat) (n138 : Nat) (c110 : ¬ (xi σ 0 3) < x6) (e131 : (x4 + x6) = nI n131) (h131 : n131 < 59536) (e138 : x6 = nI n138) (h138 : n138 < 61) (k : Lb K G w0 Q 7 104 [(0, .ref (xa σ 0)), (1, .int x1), (2, .int x2), (3, .int x3), (4, .int x4), (5, .int x5), (6, .int (x6 + 1))] [] (WM G (wl σ 11 n131 (capL ((xl σ 11 n131) + (xl σ 12 n138))))) 0 0) : Lb K G w0 Q 7 104 [(0, .ref (xa σ 0)), (1, .int x1), (2, .int x2), (3, .int x3), (4, .int x4), (5, .int x5), (6, .int x6)] [] (WM G σ) 0 0 := by
  refine b_iload X d_M_findWays_104 6 rfl ?_
  refine b_aload_n X d_M_findWays_106 0 rfl rfl ?_
  refine b_get X fl_M_105 0 rfl (v := .int (xi σ 0 3)) rfl d_M_findWays_107 ?_
  refine b_icmp_gt X (tgt := 150) d_M_findWays_110 (by decide) (fun h => absurd h c110) (fun _ => ?_)
  refine b_aload_n X d_M_findWays_113 0 rfl rfl ?_
  refine b_get X fl_M_43 0 rfl (v := .ref (xa σ 11)) rfl d_M_findWays_114 ?_
  refine b_iload X d_M_findWays_117 4 rfl ?_
  refine b_iload X d_M_findWays_119 6 rfl ?_
  refine b_iadd X d_M_findWays_121 ?_
  refine b_aload_n X d_M_findWays_122 0 rfl rfl ?_
  refine b_get X fl_M_43 0 rfl (v := .ref (xa σ 11)) rfl d_M_findWays_123 ?_
  refine b_iload X d_M_findWays_126 4 rfl ?_
  refine b_iload X d_M_findWays_128 6 rfl ?_
  refine b_iadd X d_M_findWays_130 ?_
  refine b_lald X 11 rfl (by decide) n131 e131 h131 d_M_findWays_131 ?_
  refine b_aload_n X d_M_findWays_132 0 rfl rfl ?_
  refine b_get X fl_M_46 0 rfl (v := .ref (xa σ 12)) rfl d_M_findWays_133 ?_
  refine b_iload X d_M_findWays_136 6 rfl ?_
  refine b_lald X 12 rfl (by decide) n138 e138 h138 d_M_findWays_138 ?_
  refine b_ladd X d_M_findWays_139 ?_
  refine b_dS X cf_M_capped ci_M_capped ml_M_128 (ct_M_capped G σ ((xl σ 11 n131) + (xl σ 12 n138))) (As := [.long ((xl σ 11 n131) + (xl σ 12 n138))]) (rest := [.int (x4 + x6), .ref (xa σ 11)]) rfl (Nat.le_of_ble_eq_true rfl) ⟨Nat.le_of_ble_eq_true rfl, Nat.le_of_ble_eq_true rfl⟩ ⟨Nat.le_of_ble_eq_true rfl, Nat.le_of_ble_eq_true rfl⟩ rfl rfl d_M_findWays_140 ?_
  refine b_last X 11 rfl (by decide) n131 e131 h131 (uWM_11 G σ n131 (capL ((xl σ 11 n131) + (xl σ 12 n138)))) d_M_findWays_143 ?_
  refine b_iinc X (lv' := [(0, .ref (xa σ 0)), (1, .int x1), (2, .int x2), (3, .int x3), (4, .int x4), (5, .int x5), (6, .int (x6 + 1))]) d_M_findWays_144 6 rfl (v := (x6 + 1)) rfl (by decide) [1, 2, 3, 4, 5, 6, 0] rfl ?_
  refine b_goto X (tgt := 104) d_M_findWays_147 (by decide) ?_
  exact k
theorem sg_M_waysAlong_0_3 {K : KX} {G : GG} {w0 : va_W} {Q : State → Prop} (X : Bd K G w0 "FirstTreesModel" c_M_waysAlong 11 none rm_M_waysAlong) (σ : St) (x1 : Int32) (x2 : Int32) (x3 : Int32)   (k : Lb K G w0 Q 11 3 [(0, .ref (xa σ 0)), (1, .int x1), (2, .int x2), (3, .int x3), (4, .int 0)] [] (WM G σ) 0 0) : Lb K G w0 Q 11 0 [(0, .ref (xa σ 0)), (1, .int x1), (2, .int x2), (3, .int x3)] [] (WM G σ) 0 0 := by
  refine b_iconst X (v := 0) d_M_waysAlong_0 (by decide) ?_
  refine b_istore X (lv' := [(0, .ref (xa σ 0)), (1, .int x1), (2, .int x2), (3, .int x3), (4, .int 0)]) d_M_waysAlong_1 (by decide) [1, 2, 3, 4, 0] rfl ?_
  exact k
theorem sg_M_waysAlong_3_t37 {K : KX} {G : GG} {w0 : va_W} {Q : State → Prop} (X : Bd K G w0 "FirstTreesModel" c_M_waysAlong 11 none rm_M_waysAlong) (σ : St) (x1 : Int32) (x2 : Int32) (x3 : Int32) (x4 : Int32)  (c7 : 60 < x4) (k : Lb K G w0 Q 11 37 [(0, .ref (xa σ 0)), (1, .int x1), (2, .int x2), (3, .int x3), (4, .int 0)] [] (WM G σ) 0 0) : Lb K G w0 Q 11 3 [(0, .ref (xa σ 0)), (1, .int x1), (2, .int x2), (3, .int x3), (4, .int x4)] [] (WM G σ) 0 0 := by
  refine b_iload X d_M_waysAlong_3 4 rfl ?_
  refine b_bipush X (v := 60) d_M_waysAlong_5 (by decide) ?_
  refine b_icmp_gt X (tgt := 34) d_M_waysAlong_7 (by decide) (fun _ => ?_) (fun h => absurd c7 h)
  refine b_iconst X (v := 0) d_M_waysAlong_34 (by decide) ?_
  refine b_istore X (lv' := [(0, .ref (xa σ 0)), (1, .int x1), (2, .int x2), (3, .int x3), (4, .int 0)]) d_M_waysAlong_35 (by decide) [1, 2, 3, 4, 0] rfl ?_
  exact k
theorem sg_M_waysAlong_3_ft3 {K : KX} {G : GG} {w0 : va_W} {Q : State → Prop} (X : Bd K G w0 "FirstTreesModel" c_M_waysAlong 11 none rm_M_waysAlong) (σ : St) (x1 : Int32) (x2 : Int32) (x3 : Int32) (x4 : Int32) (n27 : Nat) (c7 : ¬ 60 < x4) (c19 : ¬ x4 = x3) (e27 : x4 = nI n27) (h27 : n27 < 61) (k : Lb K G w0 Q 11 3 [(0, .ref (xa σ 0)), (1, .int x1), (2, .int x2), (3, .int x3), (4, .int (x4 + 1))] [] (WM G (wl σ 12 n27 0)) 0 0) : Lb K G w0 Q 11 3 [(0, .ref (xa σ 0)), (1, .int x1), (2, .int x2), (3, .int x3), (4, .int x4)] [] (WM G σ) 0 0 := by
  refine b_iload X d_M_waysAlong_3 4 rfl ?_
  refine b_bipush X (v := 60) d_M_waysAlong_5 (by decide) ?_
  refine b_icmp_gt X (tgt := 34) d_M_waysAlong_7 (by decide) (fun h => absurd h c7) (fun _ => ?_)
  refine b_aload_n X d_M_waysAlong_10 0 rfl rfl ?_
  refine b_get X fl_M_46 0 rfl (v := .ref (xa σ 12)) rfl d_M_waysAlong_11 ?_
  refine b_iload X d_M_waysAlong_14 4 rfl ?_
  refine b_iload X d_M_waysAlong_16 4 rfl ?_
  refine b_iload_n X d_M_waysAlong_18 3 rfl rfl ?_
  refine b_icmp_ne X (tgt := 26) d_M_waysAlong_19 (by decide) (fun _ => ?_) (fun h => absurd h c19)
  refine b_lconst X (v := 0) d_M_waysAlong_26 rfl ?_
  refine b_last X 12 rfl (by decide) n27 e27 h27 (uWM_12 G σ n27 0) d_M_waysAlong_27 ?_
  refine b_iinc X (lv' := [(0, .ref (xa σ 0)), (1, .int x1), (2, .int x2), (3, .int x3), (4, .int (x4 + 1))]) d_M_waysAlong_28 4 rfl (v := (x4 + 1)) rfl (by decide) [1, 2, 3, 4, 0] rfl ?_
  refine b_goto X (tgt := 3) d_M_waysAlong_31 (by decide) ?_
  exact k
theorem sg_M_waysAlong_3_ff3 {K : KX} {G : GG} {w0 : va_W} {Q : State → Prop} (X : Bd K G w0 "FirstTreesModel" c_M_waysAlong 11 none rm_M_waysAlong) (σ : St) (x1 : Int32) (x2 : Int32) (x3 : Int32) (x4 : Int32) (n27 : Nat) (c7 : ¬ 60 < x4) (c19 : x4 = x3) (e27 : x4 = nI n27) (h27 : n27 < 61) (k : Lb K G w0 Q 11 3 [(0, .ref (xa σ 0)), (1, .int x1), (2, .int x2), (3, .int x3), (4, .int (x4 + 1))] [] (WM G (wl σ 12 n27 1)) 0 0) : Lb K G w0 Q 11 3 [(0, .ref (xa σ 0)), (1, .int x1), (2, .int x2), (3, .int x3), (4, .int x4)] [] (WM G σ) 0 0 := by
  refine b_iload X d_M_waysAlong_3 4 rfl ?_
  refine b_bipush X (v := 60) d_M_waysAlong_5 (by decide) ?_
  refine b_icmp_gt X (tgt := 34) d_M_waysAlong_7 (by decide) (fun h => absurd h c7) (fun _ => ?_)
  refine b_aload_n X d_M_waysAlong_10 0 rfl rfl ?_
  refine b_get X fl_M_46 0 rfl (v := .ref (xa σ 12)) rfl d_M_waysAlong_11 ?_
  refine b_iload X d_M_waysAlong_14 4 rfl ?_
  refine b_iload X d_M_waysAlong_16 4 rfl ?_
  refine b_iload_n X d_M_waysAlong_18 3 rfl rfl ?_
  refine b_icmp_ne X (tgt := 26) d_M_waysAlong_19 (by decide) (fun h => absurd c19 h) (fun _ => ?_)
  refine b_lconst X (v := 1) d_M_waysAlong_22 rfl ?_
  refine b_goto X (tgt := 27) d_M_waysAlong_23 (by decide) ?_
  refine b_last X 12 rfl (by decide) n27 e27 h27 (uWM_12 G σ n27 1) d_M_waysAlong_27 ?_
  refine b_iinc X (lv' := [(0, .ref (xa σ 0)), (1, .int x1), (2, .int x2), (3, .int x3), (4, .int (x4 + 1))]) d_M_waysAlong_28 4 rfl (v := (x4 + 1)) rfl (by decide) [1, 2, 3, 4, 0] rfl ?_
  refine b_goto X (tgt := 3) d_M_waysAlong_31 (by decide) ?_
  exact k
theorem sg_M_waysAlong_37_tr {K : KX} {G : GG} {w0 : va_W} {post : PostT} (X : Bd K G w0 "FirstTreesModel" c_M_waysAlong 11 none rm_M_waysAlong) (σ : St) (x1 : Int32) (x2 : Int32) (x3 : Int32) (x4 : Int32) (n42 : Nat) (e42 : ((8 * x1) + x2) = nI n42) (h42 : n42 < 128) (c45 : (xi σ 2 n42) ≤ x4) (hp : post none (WM G σ)) : Lb K G w0 (Qe K G w0 post rm_M_waysAlong) 11 37 [(0, .ref (xa σ 0)), (1, .int x1), (2, .int x2), (3, .int x3), (4, .int x4)] [] (WM G σ) 0 0 := by
  refine b_iload X d_M_waysAlong_37 4 rfl ?_
  refine b_aload_n X d_M_waysAlong_39 0 rfl rfl ?_
  refine b_iload_n X d_M_waysAlong_40 1 rfl rfl ?_
  refine b_iload_n X d_M_waysAlong_41 2 rfl rfl ?_
  refine b_dV X cf_M_sizeOf ci_M_sizeOf ml_M_77 (ct_M_sizeOf_ G σ x1 x2 n42 e42 h42) 0 rfl rfl (As := [.int x1, .int x2]) (rest := [.int x4]) rfl (Nat.le_of_ble_eq_true rfl) ⟨Nat.le_of_ble_eq_true rfl, Nat.le_of_ble_eq_true rfl⟩ ⟨Nat.le_of_ble_eq_true rfl, Nat.le_of_ble_eq_true rfl⟩ rfl rfl d_M_waysAlong_42 ?_
  refine b_icmp_ge X (tgt := 312) d_M_waysAlong_45 (by decide) (fun _ => ?_) (fun h => absurd c45 h)
  exact b_vret X d_M_waysAlong_312 hp
theorem sg_M_waysAlong_37_f61 {K : KX} {G : GG} {w0 : va_W} {Q : State → Prop} (X : Bd K G w0 "FirstTreesModel" c_M_waysAlong 11 none rm_M_waysAlong) (σ : St) (x1 : Int32) (x2 : Int32) (x3 : Int32) (x4 : Int32) (n42 : Nat) (n53 : Nat) (e42 : ((8 * x1) + x2) = nI n42) (h42 : n42 < 128) (c45 : ¬ (xi σ 2 n42) ≤ x4) (e53 : (((64 * x1) + (8 * x2)) + x4) = nI n53) (h53 : n53 < 1024) (k : Lb K G w0 Q 11 61 [(0, .ref (xa σ 0)), (1, .int x1), (2, .int x2), (3, .int x3), (4, .int x4), (5, .int (xi σ 3 n53)), (6, .int 0)] [] (WM G σ) 0 0) : Lb K G w0 Q 11 37 [(0, .ref (xa σ 0)), (1, .int x1), (2, .int x2), (3, .int x3), (4, .int x4)] [] (WM G σ) 0 0 := by
  refine b_iload X d_M_waysAlong_37 4 rfl ?_
  refine b_aload_n X d_M_waysAlong_39 0 rfl rfl ?_
  refine b_iload_n X d_M_waysAlong_40 1 rfl rfl ?_
  refine b_iload_n X d_M_waysAlong_41 2 rfl rfl ?_
  refine b_dV X cf_M_sizeOf ci_M_sizeOf ml_M_77 (ct_M_sizeOf_ G σ x1 x2 n42 e42 h42) 0 rfl rfl (As := [.int x1, .int x2]) (rest := [.int x4]) rfl (Nat.le_of_ble_eq_true rfl) ⟨Nat.le_of_ble_eq_true rfl, Nat.le_of_ble_eq_true rfl⟩ ⟨Nat.le_of_ble_eq_true rfl, Nat.le_of_ble_eq_true rfl⟩ rfl rfl d_M_waysAlong_42 ?_
  refine b_icmp_ge X (tgt := 312) d_M_waysAlong_45 (by decide) (fun h => absurd h c45) (fun _ => ?_)
  refine b_aload_n X d_M_waysAlong_48 0 rfl rfl ?_
  refine b_iload_n X d_M_waysAlong_49 1 rfl rfl ?_
  refine b_iload_n X d_M_waysAlong_50 2 rfl rfl ?_
  refine b_iload X d_M_waysAlong_51 4 rfl ?_
  refine b_dV X cf_M_symbolAt ci_M_symbolAt ml_M_81 (ct_M_symbolAt_ G σ x1 x2 x4 n53 e53 h53) 0 rfl rfl (As := [.int x1, .int x2, .int x4]) (rest := []) rfl (Nat.le_of_ble_eq_true rfl) ⟨Nat.le_of_ble_eq_true rfl, Nat.le_of_ble_eq_true rfl⟩ ⟨Nat.le_of_ble_eq_true rfl, Nat.le_of_ble_eq_true rfl⟩ rfl rfl d_M_waysAlong_53 ?_
  refine b_istore X (lv' := [(0, .ref (xa σ 0)), (1, .int x1), (2, .int x2), (3, .int x3), (4, .int x4), (5, .int (xi σ 3 n53))]) d_M_waysAlong_56 (by decide) [1, 2, 3, 4, 5, 0] rfl ?_
  refine b_iconst X (v := 0) d_M_waysAlong_58 (by decide) ?_
  refine b_istore X (lv' := [(0, .ref (xa σ 0)), (1, .int x1), (2, .int x2), (3, .int x3), (4, .int x4), (5, .int (xi σ 3 n53)), (6, .int 0)]) d_M_waysAlong_59 (by decide) [1, 2, 3, 4, 5, 6, 0] rfl ?_
  exact k
theorem sg_M_waysAlong_61_t85 {K : KX} {G : GG} {w0 : va_W} {Q : State → Prop} (X : Bd K G w0 "FirstTreesModel" c_M_waysAlong 11 none rm_M_waysAlong) (σ : St) (x1 : Int32) (x2 : Int32) (x3 : Int32) (x4 : Int32) (x5 : Int32) (x6 : Int32)  (c65 : 60 < x6) (k : Lb K G w0 Q 11 85 [(0, .ref (xa σ 0)), (1, .int x1), (2, .int x2), (3, .int x3), (4, .int x4), (5, .int x5), (6, .int x3)] [] (WM G σ) 0 0) : Lb K G w0 Q 11 61 [(0, .ref (xa σ 0)), (1, .int x1), (2, .int x2), (3, .int x3), (4, .int x4), (5, .int x5), (6, .int x6)] [] (WM G σ) 0 0 := by
  refine b_iload X d_M_waysAlong_61 6 rfl ?_
  refine b_bipush X (v := 60) d_M_waysAlong_63 (by decide) ?_
  refine b_icmp_gt X (tgt := 82) d_M_waysAlong_65 (by decide) (fun _ => ?_) (fun h => absurd c65 h)
  refine b_iload_n X d_M_waysAlong_82 3 rfl rfl ?_
  refine b_istore X (lv' := [(0, .ref (xa σ 0)), (1, .int x1), (2, .int x2), (3, .int x3), (4, .int x4), (5, .int x5), (6, .int x3)]) d_M_waysAlong_83 (by decide) [1, 2, 3, 4, 5, 6, 0] rfl ?_
  exact k
theorem sg_M_waysAlong_61_f61 {K : KX} {G : GG} {w0 : va_W} {Q : State → Prop} (X : Bd K G w0 "FirstTreesModel" c_M_waysAlong 11 none rm_M_waysAlong) (σ : St) (x1 : Int32) (x2 : Int32) (x3 : Int32) (x4 : Int32) (x5 : Int32) (x6 : Int32) (n75 : Nat) (c65 : ¬ 60 < x6) (e75 : x6 = nI n75) (h75 : n75 < 61) (k : Lb K G w0 Q 11 61 [(0, .ref (xa σ 0)), (1, .int x1), (2, .int x2), (3, .int x3), (4, .int x4), (5, .int x5), (6, .int (x6 + 1))] [] (WM G (wl σ 13 n75 0)) 0 0) : Lb K G w0 Q 11 61 [(0, .ref (xa σ 0)), (1, .int x1), (2, .int x2), (3, .int x3), (4, .int x4), (5, .int x5), (6, .int x6)] [] (WM G σ) 0 0 := by
  refine b_iload X d_M_waysAlong_61 6 rfl ?_
  refine b_bipush X (v := 60) d_M_waysAlong_63 (by decide) ?_
  refine b_icmp_gt X (tgt := 82) d_M_waysAlong_65 (by decide) (fun h => absurd h c65) (fun _ => ?_)
  refine b_aload_n X d_M_waysAlong_68 0 rfl rfl ?_
  refine b_get X fl_M_49 0 rfl (v := .ref (xa σ 13)) rfl d_M_waysAlong_69 ?_
  refine b_iload X d_M_waysAlong_72 6 rfl ?_
  refine b_lconst X (v := 0) d_M_waysAlong_74 rfl ?_
  refine b_last X 13 rfl (by decide) n75 e75 h75 (uWM_13 G σ n75 0) d_M_waysAlong_75 ?_
  refine b_iinc X (lv' := [(0, .ref (xa σ 0)), (1, .int x1), (2, .int x2), (3, .int x3), (4, .int x4), (5, .int x5), (6, .int (x6 + 1))]) d_M_waysAlong_76 6 rfl (v := (x6 + 1)) rfl (by decide) [1, 2, 3, 4, 5, 6, 0] rfl ?_
  refine b_goto X (tgt := 61) d_M_waysAlong_79 (by decide) ?_
  exact k
theorem sg_M_waysAlong_85_t279 {K : KX} {G : GG} {w0 : va_W} {Q : State → Prop} (X : Bd K G w0 "FirstTreesModel" c_M_waysAlong 11 none rm_M_waysAlong) (σ : St) (x1 : Int32) (x2 : Int32) (x3 : Int32) (x4 : Int32) (x5 : Int32) (x6 : Int32)  (c91 : (xi σ 0 3) < x6) (k : Lb K G w0 Q 11 279 [(0, .ref (xa σ 0)), (1, .int x1), (2, .int x2), (3, .int x3), (4, .int x4), (5, .int x5), (6, .int 0)] [] (WM G σ) 0 0) : Lb K G w0 Q 11 85 [(0, .ref (xa σ 0)), (1, .int x1), (2, .int x2), (3, .int x3), (4, .int x4), (5, .int x5), (6, .int x6)] [] (WM G σ) 0 0 := by
  refine b_iload X d_M_waysAlong_85 6 rfl ?_
  refine b_aload_n X d_M_waysAlong_87 0 rfl rfl ?_
  refine b_get X fl_M_105 0 rfl (v := .int (xi σ 0 3)) rfl d_M_waysAlong_88 ?_
  refine b_icmp_gt X (tgt := 276) d_M_waysAlong_91 (by decide) (fun _ => ?_) (fun h => absurd c91 h)
  refine b_iconst X (v := 0) d_M_waysAlong_276 (by decide) ?_
  refine b_istore X (lv' := [(0, .ref (xa σ 0)), (1, .int x1), (2, .int x2), (3, .int x3), (4, .int x4), (5, .int x5), (6, .int 0)]) d_M_waysAlong_277 (by decide) [1, 2, 3, 4, 5, 6, 0] rfl ?_
  exact k
theorem sg_M_waysAlong_85_ftt206 {K : KX} {G : GG} {w0 : va_W} {Q : State → Prop} (X : Bd K G w0 "FirstTreesModel" c_M_waysAlong 11 none rm_M_waysAlong) (σ : St) (x1 : Int32) (x2 : Int32) (x3 : Int32) (x4 : Int32) (x5 : Int32) (x6 : Int32) (n100 : Nat) (n199 : Nat) (c91 : ¬ (xi σ 0 3) < x6) (e100 : x6 = nI n100) (h100 : n100 < 61) (c102 : ¬ (xl σ 12 n100) = 0) (c114 : ¬ (b2i (x5 < 0)) = 0) (e199 : ((61 * ((-1) - x5)) + x6) = nI n199) (h199 : n199 < 976) (k : Lb K G w0 Q 11 206 [(0, .ref (xa σ 0)), (1, .int x1), (2, .int x2), (3, .int x3), (4, .int x4), (5, .int x5), (6, .int x6), (7, .int (61 * ((61 * ((-1) - x5)) + x6))), (8, .long (xl σ 8 n199)), (10, .int x6)] [] (WM G σ) 0 0) : Lb K G w0 Q 11 85 [(0, .ref (xa σ 0)), (1, .int x1), (2, .int x2), (3, .int x3), (4, .int x4), (5, .int x5), (6, .int x6)] [] (WM G σ) 0 0 := by
  refine b_iload X d_M_waysAlong_85 6 rfl ?_
  refine b_aload_n X d_M_waysAlong_87 0 rfl rfl ?_
  refine b_get X fl_M_105 0 rfl (v := .int (xi σ 0 3)) rfl d_M_waysAlong_88 ?_
  refine b_icmp_gt X (tgt := 276) d_M_waysAlong_91 (by decide) (fun h => absurd h c91) (fun _ => ?_)
  refine b_aload_n X d_M_waysAlong_94 0 rfl rfl ?_
  refine b_get X fl_M_46 0 rfl (v := .ref (xa σ 12)) rfl d_M_waysAlong_95 ?_
  refine b_iload X d_M_waysAlong_98 6 rfl ?_
  refine b_lald X 12 rfl (by decide) n100 e100 h100 d_M_waysAlong_100 ?_
  refine b_lconst X (v := 0) d_M_waysAlong_101 rfl ?_
  refine b_l_ne X (tgt := 109) d_M_waysAlong_102 d_M_waysAlong_103 (by decide) (fun _ => ?_) (fun h => absurd h c102)
  refine b_iload X d_M_waysAlong_109 5 rfl ?_
  refine b_dS X cf_M_isRule ci_M_isRule ml_M_85 (ct_M_isRule G σ x5) (As := [.int x5]) (rest := []) rfl (Nat.le_of_ble_eq_true rfl) ⟨Nat.le_of_ble_eq_true rfl, Nat.le_of_ble_eq_true rfl⟩ ⟨Nat.le_of_ble_eq_true rfl, Nat.le_of_ble_eq_true rfl⟩ rfl rfl d_M_waysAlong_111 ?_
  refine b_if_ne X (tgt := 170) d_M_waysAlong_114 (by decide) (fun _ => ?_) (fun h => absurd h c114)
  refine b_bipush X (v := 61) d_M_waysAlong_170 (by decide) ?_
  refine b_bipush X (v := 61) d_M_waysAlong_172 (by decide) ?_
  refine b_iconst X (v := (-1)) d_M_waysAlong_174 (by decide) ?_
  refine b_iload X d_M_waysAlong_175 5 rfl ?_
  refine b_isub X d_M_waysAlong_177 ?_
  refine b_imul X d_M_waysAlong_178 ?_
  refine b_iload X d_M_waysAlong_179 6 rfl ?_
  refine b_iadd X d_M_waysAlong_181 ?_
  refine b_imul X d_M_waysAlong_182 ?_
  refine b_istore X (lv' := [(0, .ref (xa σ 0)), (1, .int x1), (2, .int x2), (3, .int x3), (4, .int x4), (5, .int x5), (6, .int x6), (7, .int (61 * ((61 * ((-1) - x5)) + x6)))]) d_M_waysAlong_183 (by decide) [1, 2, 3, 4, 5, 6, 7, 0] rfl ?_
  refine b_aload_n X d_M_waysAlong_185 0 rfl rfl ?_
  refine b_get X fl_M_32 0 rfl (v := .ref (xa σ 8)) rfl d_M_waysAlong_186 ?_
  refine b_bipush X (v := 61) d_M_waysAlong_189 (by decide) ?_
  refine b_iconst X (v := (-1)) d_M_waysAlong_191 (by decide) ?_
  refine b_iload X d_M_waysAlong_192 5 rfl ?_
  refine b_isub X d_M_waysAlong_194 ?_
  refine b_imul X d_M_waysAlong_195 ?_
  refine b_iload X d_M_waysAlong_196 6 rfl ?_
  refine b_iadd X d_M_waysAlong_198 ?_
  refine b_lald X 8 rfl (by decide) n199 e199 h199 d_M_waysAlong_199 ?_
  refine b_lstore X (lv' := [(0, .ref (xa σ 0)), (1, .int x1), (2, .int x2), (3, .int x3), (4, .int x4), (5, .int x5), (6, .int x6), (7, .int (61 * ((61 * ((-1) - x5)) + x6))), (8, .long (xl σ 8 n199))]) d_M_waysAlong_200 (by decide) [1, 2, 3, 4, 5, 6, 7, 8, 0] rfl ?_
  refine b_iload X d_M_waysAlong_202 6 rfl ?_
  refine b_istore X (lv' := [(0, .ref (xa σ 0)), (1, .int x1), (2, .int x2), (3, .int x3), (4, .int x4), (5, .int x5), (6, .int x6), (7, .int (61 * ((61 * ((-1) - x5)) + x6))), (8, .long (xl σ 8 n199)), (10, .int x6)]) d_M_waysAlong_204 (by decide) [1, 2, 3, 4, 5, 6, 7, 8, 9, 0] rfl ?_
  exact k
theorem sg_M_waysAlong_85_ftft85 {K : KX} {G : GG} {w0 : va_W} {Q : State → Prop} (X : Bd K G w0 "FirstTreesModel" c_M_waysAlong 11 none rm_M_waysAlong) (σ : St) (x1 : Int32) (x2 : Int32) (x3 : Int32) (x4 : Int32) (x5 : Int32) (x6 : Int32) (n100 : Nat) (c91 : ¬ (xi σ 0 3) < x6) (e100 : x6 = nI n100) (h100 : n100 < 61) (c102 : ¬ (xl σ 12 n100) = 0) (c114 : (b2i (x5 < 0)) = 0) (c123 : (xi σ 0 3) ≤ x6) (k : Lb K G w0 Q 11 85 [(0, .ref (xa σ 0)), (1, .int x1), (2, .int x2), (3, .int x3), (4, .int x4), (5, .int x5), (6, .int (x6 + 1))] [] (WM G σ) 0 0) : Lb K G w0 Q 11 85 [(0, .ref (xa σ 0)), (1, .int x1), (2, .int x2), (3, .int x3), (4, .int x4), (5, .int x5), (6, .int x6)] [] (WM G σ) 0 0 := by
  refine b_iload X d_M_waysAlong_85 6 rfl ?_
  refine b_aload_n X d_M_waysAlong_87 0 rfl rfl ?_
  refine b_get X fl_M_105 0 rfl (v := .int (xi σ 0 3)) rfl d_M_waysAlong_88 ?_
  refine b_icmp_gt X (tgt := 276) d_M_waysAlong_91 (by decide) (fun h => absurd h c91) (fun _ => ?_)
  refine b_aload_n X d_M_waysAlong_94 0 rfl rfl ?_
  refine b_get X fl_M_46 0 rfl (v := .ref (xa σ 12)) rfl d_M_waysAlong_95 ?_
  refine b_iload X d_M_waysAlong_98 6 rfl ?_
  refine b_lald X 12 rfl (by decide) n100 e100 h100 d_M_waysAlong_100 ?_
  refine b_lconst X (v := 0) d_M_waysAlong_101 rfl ?_
  refine b_l_ne X (tgt := 109) d_M_waysAlong_102 d_M_waysAlong_103 (by decide) (fun _ => ?_) (fun h => absurd h c102)
  refine b_iload X d_M_waysAlong_109 5 rfl ?_
  refine b_dS X cf_M_isRule ci_M_isRule ml_M_85 (ct_M_isRule G σ x5) (As := [.int x5]) (rest := []) rfl (Nat.le_of_ble_eq_true rfl) ⟨Nat.le_of_ble_eq_true rfl, Nat.le_of_ble_eq_true rfl⟩ ⟨Nat.le_of_ble_eq_true rfl, Nat.le_of_ble_eq_true rfl⟩ rfl rfl d_M_waysAlong_111 ?_
  refine b_if_ne X (tgt := 170) d_M_waysAlong_114 (by decide) (fun h => absurd c114 h) (fun _ => ?_)
  refine b_iload X d_M_waysAlong_117 6 rfl ?_
  refine b_aload_n X d_M_waysAlong_119 0 rfl rfl ?_
  refine b_get X fl_M_105 0 rfl (v := .int (xi σ 0 3)) rfl d_M_waysAlong_120 ?_
  refine b_icmp_ge X (tgt := 270) d_M_waysAlong_123 (by decide) (fun _ => ?_) (fun h => absurd c123 h)
  refine b_iinc X (lv' := [(0, .ref (xa σ 0)), (1, .int x1), (2, .int x2), (3, .int x3), (4, .int x4), (5, .int x5), (6, .int (x6 + 1))]) d_M_waysAlong_270 6 rfl (v := (x6 + 1)) rfl (by decide) [1, 2, 3, 4, 5, 6, 0] rfl ?_
  refine b_goto X (tgt := 85) d_M_waysAlong_273 (by decide) ?_
  exact k
theorem sg_M_waysAlong_85_ftfft85 {K : KX} {G : GG} {w0 : va_W} {Q : State → Prop} (X : Bd K G w0 "FirstTreesModel" c_M_waysAlong 11 none rm_M_waysAlong) (σ : St) (x1 : Int32) (x2 : Int32) (x3 : Int32) (x4 : Int32) (x5 : Int32) (x6 : Int32) (n100 : Nat) (c91 : ¬ (xi σ 0 3) < x6) (e100 : x6 = nI n100) (h100 : n100 < 61) (c102 : ¬ (xl σ 12 n100) = 0) (c114 : (b2i (x5 < 0)) = 0) (c123 : ¬ (xi σ 0 3) ≤ x6) (h132 : n100 < 60) (c135 : ¬ (xi σ 7 n100) = x5) (k : Lb K G w0 Q 11 85 [(0, .ref (xa σ 0)), (1, .int x1), (2, .int x2), (3, .int x3), (4, .int x4), (5, .int x5), (6, .int (x6 + 1))] [] (WM G σ) 0 0) : Lb K G w0 Q 11 85 [(0, .ref (xa σ 0)), (1, .int x1), (2, .int x2), (3, .int x3), (4, .int x4), (5, .int x5), (6, .int x6)] [] (WM G σ) 0 0 := by
  refine b_iload X d_M_waysAlong_85 6 rfl ?_
  refine b_aload_n X d_M_waysAlong_87 0 rfl rfl ?_
  refine b_get X fl_M_105 0 rfl (v := .int (xi σ 0 3)) rfl d_M_waysAlong_88 ?_
  refine b_icmp_gt X (tgt := 276) d_M_waysAlong_91 (by decide) (fun h => absurd h c91) (fun _ => ?_)
  refine b_aload_n X d_M_waysAlong_94 0 rfl rfl ?_
  refine b_get X fl_M_46 0 rfl (v := .ref (xa σ 12)) rfl d_M_waysAlong_95 ?_
  refine b_iload X d_M_waysAlong_98 6 rfl ?_
  refine b_lald X 12 rfl (by decide) n100 e100 h100 d_M_waysAlong_100 ?_
  refine b_lconst X (v := 0) d_M_waysAlong_101 rfl ?_
  refine b_l_ne X (tgt := 109) d_M_waysAlong_102 d_M_waysAlong_103 (by decide) (fun _ => ?_) (fun h => absurd h c102)
  refine b_iload X d_M_waysAlong_109 5 rfl ?_
  refine b_dS X cf_M_isRule ci_M_isRule ml_M_85 (ct_M_isRule G σ x5) (As := [.int x5]) (rest := []) rfl (Nat.le_of_ble_eq_true rfl) ⟨Nat.le_of_ble_eq_true rfl, Nat.le_of_ble_eq_true rfl⟩ ⟨Nat.le_of_ble_eq_true rfl, Nat.le_of_ble_eq_true rfl⟩ rfl rfl d_M_waysAlong_111 ?_
  refine b_if_ne X (tgt := 170) d_M_waysAlong_114 (by decide) (fun h => absurd c114 h) (fun _ => ?_)
  refine b_iload X d_M_waysAlong_117 6 rfl ?_
  refine b_aload_n X d_M_waysAlong_119 0 rfl rfl ?_
  refine b_get X fl_M_105 0 rfl (v := .int (xi σ 0 3)) rfl d_M_waysAlong_120 ?_
  refine b_icmp_ge X (tgt := 270) d_M_waysAlong_123 (by decide) (fun h => absurd h c123) (fun _ => ?_)
  refine b_aload_n X d_M_waysAlong_126 0 rfl rfl ?_
  refine b_get X fl_M_29 0 rfl (v := .ref (xa σ 7)) rfl d_M_waysAlong_127 ?_
  refine b_iload X d_M_waysAlong_130 6 rfl ?_
  refine b_iald X 7 rfl (by decide) n100 e100 h132 d_M_waysAlong_132 ?_
  refine b_iload X d_M_waysAlong_133 5 rfl ?_
  refine b_icmp_ne X (tgt := 270) d_M_waysAlong_135 (by decide) (fun _ => ?_) (fun h => absurd h c135)
  refine b_iinc X (lv' := [(0, .ref (xa σ 0)), (1, .int x1), (2, .int x2), (3, .int x3), (4, .int x4), (5, .int x5), (6, .int (x6 + 1))]) d_M_waysAlong_270 6 rfl (v := (x6 + 1)) rfl (by decide) [1, 2, 3, 4, 5, 6, 0] rfl ?_
  refine b_goto X (tgt := 85) d_M_waysAlong_273 (by decide) ?_
  exact k
theorem sg_M_waysAlong_85_ftfff85 {K : KX} {G : GG} {w0 : va_W} {Q : State → Prop} (X : Bd K G w0 "FirstTreesModel" c_M_waysAlong 11 none rm_M_waysAlong) (σ : St) (x1 : Int32) (x2 : Int32) (x3 : Int32) (x4 : Int32) (x5 : Int32) (x6 : Int32) (n100 : Nat) (n154 : Nat) (c91 : ¬ (xi σ 0 3) < x6) (e100 : x6 = nI n100) (h100 : n100 < 61) (c102 : ¬ (xl σ 12 n100) = 0) (c114 : (b2i (x5 < 0)) = 0) (c123 : ¬ (xi σ 0 3) ≤ x6) (h132 : n100 < 60) (c135 : (xi σ 7 n100) = x5) (e154 : (x6 + 1) = nI n154) (h154 : n154 < 61) (k : Lb K G w0 Q 11 85 [(0, .ref (xa σ 0)), (1, .int x1), (2, .int x2), (3, .int x3), (4, .int x4), (5, .int x5), (6, .int (x6 + 1))] [] (WM G (wl σ 13 n154 (capL ((xl σ 13 n154) + (xl σ 12 n100))))) 0 0) : Lb K G w0 Q 11 85 [(0, .ref (xa σ 0)), (1, .int x1), (2, .int x2), (3, .int x3), (4, .int x4), (5, .int x5), (6, .int x6)] [] (WM G σ) 0 0 := by
  refine b_iload X d_M_waysAlong_85 6 rfl ?_
  refine b_aload_n X d_M_waysAlong_87 0 rfl rfl ?_
  refine b_get X fl_M_105 0 rfl (v := .int (xi σ 0 3)) rfl d_M_waysAlong_88 ?_
  refine b_icmp_gt X (tgt := 276) d_M_waysAlong_91 (by decide) (fun h => absurd h c91) (fun _ => ?_)
  refine b_aload_n X d_M_waysAlong_94 0 rfl rfl ?_
  refine b_get X fl_M_46 0 rfl (v := .ref (xa σ 12)) rfl d_M_waysAlong_95 ?_
  refine b_iload X d_M_waysAlong_98 6 rfl ?_
  refine b_lald X 12 rfl (by decide) n100 e100 h100 d_M_waysAlong_100 ?_
  refine b_lconst X (v := 0) d_M_waysAlong_101 rfl ?_
  refine b_l_ne X (tgt := 109) d_M_waysAlong_102 d_M_waysAlong_103 (by decide) (fun _ => ?_) (fun h => absurd h c102)
  refine b_iload X d_M_waysAlong_109 5 rfl ?_
  refine b_dS X cf_M_isRule ci_M_isRule ml_M_85 (ct_M_isRule G σ x5) (As := [.int x5]) (rest := []) rfl (Nat.le_of_ble_eq_true rfl) ⟨Nat.le_of_ble_eq_true rfl, Nat.le_of_ble_eq_true rfl⟩ ⟨Nat.le_of_ble_eq_true rfl, Nat.le_of_ble_eq_true rfl⟩ rfl rfl d_M_waysAlong_111 ?_
  refine b_if_ne X (tgt := 170) d_M_waysAlong_114 (by decide) (fun h => absurd c114 h) (fun _ => ?_)
  refine b_iload X d_M_waysAlong_117 6 rfl ?_
  refine b_aload_n X d_M_waysAlong_119 0 rfl rfl ?_
  refine b_get X fl_M_105 0 rfl (v := .int (xi σ 0 3)) rfl d_M_waysAlong_120 ?_
  refine b_icmp_ge X (tgt := 270) d_M_waysAlong_123 (by decide) (fun h => absurd h c123) (fun _ => ?_)
  refine b_aload_n X d_M_waysAlong_126 0 rfl rfl ?_
  refine b_get X fl_M_29 0 rfl (v := .ref (xa σ 7)) rfl d_M_waysAlong_127 ?_
  refine b_iload X d_M_waysAlong_130 6 rfl ?_
  refine b_iald X 7 rfl (by decide) n100 e100 h132 d_M_waysAlong_132 ?_
  refine b_iload X d_M_waysAlong_133 5 rfl ?_
  refine b_icmp_ne X (tgt := 270) d_M_waysAlong_135 (by decide) (fun h => absurd c135 h) (fun _ => ?_)
  refine b_aload_n X d_M_waysAlong_138 0 rfl rfl ?_
  refine b_get X fl_M_49 0 rfl (v := .ref (xa σ 13)) rfl d_M_waysAlong_139 ?_
  refine b_iload X d_M_waysAlong_142 6 rfl ?_
  refine b_iconst X (v := 1) d_M_waysAlong_144 (by decide) ?_
  refine b_iadd X d_M_waysAlong_145 ?_
  refine b_aload_n X d_M_waysAlong_146 0 rfl rfl ?_
  refine b_get X fl_M_49 0 rfl (v := .ref (xa σ 13)) rfl d_M_waysAlong_147 ?_
  refine b_iload X d_M_waysAlong_150 6 rfl ?_
  refine b_iconst X (v := 1) d_M_waysAlong_152 (by decide) ?_
  refine b_iadd X d_M_waysAlong_153 ?_
  refine b_lald X 13 rfl (by decide) n154 e154 h154 d_M_waysAlong_154 ?_
  refine b_aload_n X d_M_waysAlong_155 0 rfl rfl ?_
  refine b_get X fl_M_46 0 rfl (v := .ref (xa σ 12)) rfl d_M_waysAlong_156 ?_
  refine b_iload X d_M_waysAlong_159 6 rfl ?_
  refine b_lald X 12 rfl (by decide) n100 e100 (Nat.lt_of_lt_of_le h132 (by decide)) d_M_waysAlong_161 ?_
  refine b_ladd X d_M_waysAlong_162 ?_
  refine b_dS X cf_M_capped ci_M_capped ml_M_128 (ct_M_capped G σ ((xl σ 13 n154) + (xl σ 12 n100))) (As := [.long ((xl σ 13 n154) + (xl σ 12 n100))]) (rest := [.int (x6 + 1), .ref (xa σ 13)]) rfl (Nat.le_of_ble_eq_true rfl) ⟨Nat.le_of_ble_eq_true rfl, Nat.le_of_ble_eq_true rfl⟩ ⟨Nat.le_of_ble_eq_true rfl, Nat.le_of_ble_eq_true rfl⟩ rfl rfl d_M_waysAlong_163 ?_
  refine b_last X 13 rfl (by decide) n154 e154 h154 (uWM_13 G σ n154 (capL ((xl σ 13 n154) + (xl σ 12 n100)))) d_M_waysAlong_166 ?_
  refine b_goto X (tgt := 270) d_M_waysAlong_167 (by decide) ?_
  refine b_iinc X (lv' := [(0, .ref (xa σ 0)), (1, .int x1), (2, .int x2), (3, .int x3), (4, .int x4), (5, .int x5), (6, .int (x6 + 1))]) d_M_waysAlong_270 6 rfl (v := (x6 + 1)) rfl (by decide) [1, 2, 3, 4, 5, 6, 0] rfl ?_
  refine b_goto X (tgt := 85) d_M_waysAlong_273 (by decide) ?_
  exact k
theorem sg_M_waysAlong_85_ff85 {K : KX} {G : GG} {w0 : va_W} {Q : State → Prop} (X : Bd K G w0 "FirstTreesModel" c_M_waysAlong 11 none rm_M_waysAlong) (σ : St) (x1 : Int32) (x2 : Int32) (x3 : Int32) (x4 : Int32) (x5 : Int32) (x6 : Int32) (n100 : Nat) (c91 : ¬ (xi σ 0 3) < x6) (e100 : x6 = nI n100) (h100 : n100 < 61) (c102 : (xl σ 12 n100) = 0) (k : Lb K G w0 Q 11 85 [(0, .ref (xa σ 0)), (1, .int x1), (2, .int x2), (3, .int x3), (4, .int x4), (5, .int x5), (6, .int (x6 + 1))] [] (WM G σ) 0 0) : Lb K G w0 Q 11 85 [(0, .ref (xa σ 0)), (1, .int x1), (2, .int x2), (3, .int x3), (4, .int x4), (5, .int x5), (6, .int x6)] [] (WM G σ) 0 0 := by
  refine b_iload X d_M_waysAlong_85 6 rfl ?_
  refine b_aload_n X d_M_waysAlong_87 0 rfl rfl ?_
  refine b_get X fl_M_105 0 rfl (v := .int (xi σ 0 3)) rfl d_M_waysAlong_88 ?_
  refine b_icmp_gt X (tgt := 276) d_M_waysAlong_91 (by decide) (fun h => absurd h c91) (fun _ => ?_)
  refine b_aload_n X d_M_waysAlong_94 0 rfl rfl ?_
  refine b_get X fl_M_46 0 rfl (v := .ref (xa σ 12)) rfl d_M_waysAlong_95 ?_
  refine b_iload X d_M_waysAlong_98 6 rfl ?_
  refine b_lald X 12 rfl (by decide) n100 e100 h100 d_M_waysAlong_100 ?_
  refine b_lconst X (v := 0) d_M_waysAlong_101 rfl ?_
  refine b_l_ne X (tgt := 109) d_M_waysAlong_102 d_M_waysAlong_103 (by decide) (fun h => absurd c102 h) (fun _ => ?_)
  refine b_goto X (tgt := 270) d_M_waysAlong_106 (by decide) ?_
  refine b_iinc X (lv' := [(0, .ref (xa σ 0)), (1, .int x1), (2, .int x2), (3, .int x3), (4, .int x4), (5, .int x5), (6, .int (x6 + 1))]) d_M_waysAlong_270 6 rfl (v := (x6 + 1)) rfl (by decide) [1, 2, 3, 4, 5, 6, 0] rfl ?_
  refine b_goto X (tgt := 85) d_M_waysAlong_273 (by decide) ?_
  exact k
theorem sg_M_waysAlong_206_t85 {K : KX} {G : GG} {w0 : va_W} {Q : State → Prop} (X : Bd K G w0 "FirstTreesModel" c_M_waysAlong 11 none rm_M_waysAlong) (σ : St) (x1 : Int32) (x2 : Int32) (x3 : Int32) (x4 : Int32) (x5 : Int32) (x6 : Int32) (x7 : Int32) (x8 : Int64) (x10 : Int32)  (c212 : (xi σ 0 3) < x10) (k : Lb K G w0 Q 11 85 [(0, .ref (xa σ 0)), (1, .int x1), (2, .int x2), (3, .int x3), (4, .int x4), (5, .int x5), (6, .int (x6 + 1))] [] (WM G σ) 0 0) : Lb K G w0 Q 11 206 [(0, .ref (xa σ 0)), (1, .int x1), (2, .int x2), (3, .int x3), (4, .int x4), (5, .int x5), (6, .int x6), (7, .int x7), (8, .long x8), (10, .int x10)] [] (WM G σ) 0 0 := by
  refine b_iload X d_M_waysAlong_206 9 rfl ?_
  refine b_aload_n X d_M_waysAlong_208 0 rfl rfl ?_
  refine b_get X fl_M_105 0 rfl (v := .int (xi σ 0 3)) rfl d_M_waysAlong_209 ?_
  refine b_icmp_gt X (tgt := 270) d_M_waysAlong_212 (by decide) (fun _ => ?_) (fun h => absurd c212 h)
  refine b_iinc X (lv' := [(0, .ref (xa σ 0)), (1, .int x1), (2, .int x2), (3, .int x3), (4, .int x4), (5, .int x5), (6, .int (x6 + 1)), (7, .int x7), (8, .long x8), (10, .int x10)]) d_M_waysAlong_270 6 rfl (v := (x6 + 1)) rfl (by decide) [1, 2, 3, 4, 5, 6, 0, 7, 8, 9] rfl ?_
  refine b_goto X (tgt := 85) d_M_waysAlong_273 (by decide) ?_
  refine Lb.pick (lv' := [(0, .ref (xa σ 0)), (1, .int x1), (2, .int x2), (3, .int x3), (4, .int x4), (5, .int x5), (6, .int (x6 + 1))]) [0, 1, 2, 3, 4, 5, 6] rfl ?_
  exact k
theorem sg_M_waysAlong_206_ft85 {K : KX} {G : GG} {w0 : va_W} {Q : State → Prop} (X : Bd K G w0 "FirstTreesModel" c_M_waysAlong 11 none rm_M_waysAlong) (σ : St) (x1 : Int32) (x2 : Int32) (x3 : Int32) (x4 : Int32) (x5 : Int32) (x6 : Int32) (x7 : Int32) (x8 : Int64) (x10 : Int32)  (c212 : ¬ (xi σ 0 3) < x10) (c221 : (shrL x8 x10) = 0) (k : Lb K G w0 Q 11 85 [(0, .ref (xa σ 0)), (1, .int x1), (2, .int x2), (3, .int x3), (4, .int x4), (5, .int x5), (6, .int (x6 + 1))] [] (WM G σ) 0 0) : Lb K G w0 Q 11 206 [(0, .ref (xa σ 0)), (1, .int x1), (2, .int x2), (3, .int x3), (4, .int x4), (5, .int x5), (6, .int x6), (7, .int x7), (8, .long x8), (10, .int x10)] [] (WM G σ) 0 0 := by
  refine b_iload X d_M_waysAlong_206 9 rfl ?_
  refine b_aload_n X d_M_waysAlong_208 0 rfl rfl ?_
  refine b_get X fl_M_105 0 rfl (v := .int (xi σ 0 3)) rfl d_M_waysAlong_209 ?_
  refine b_icmp_gt X (tgt := 270) d_M_waysAlong_212 (by decide) (fun h => absurd h c212) (fun _ => ?_)
  refine b_lload X d_M_waysAlong_215 8 rfl ?_
  refine b_iload X d_M_waysAlong_217 9 rfl ?_
  refine b_lshr X (v := (shrL x8 x10)) d_M_waysAlong_219 rfl ?_
  refine b_lconst X (v := 0) d_M_waysAlong_220 rfl ?_
  refine b_l_eq X (tgt := 270) d_M_waysAlong_221 d_M_waysAlong_222 (by decide) (fun _ => ?_) (fun h => absurd c221 h)
  refine b_iinc X (lv' := [(0, .ref (xa σ 0)), (1, .int x1), (2, .int x2), (3, .int x3), (4, .int x4), (5, .int x5), (6, .int (x6 + 1)), (7, .int x7), (8, .long x8), (10, .int x10)]) d_M_waysAlong_270 6 rfl (v := (x6 + 1)) rfl (by decide) [1, 2, 3, 4, 5, 6, 0, 7, 8, 9] rfl ?_
  refine b_goto X (tgt := 85) d_M_waysAlong_273 (by decide) ?_
  refine Lb.pick (lv' := [(0, .ref (xa σ 0)), (1, .int x1), (2, .int x2), (3, .int x3), (4, .int x4), (5, .int x5), (6, .int (x6 + 1))]) [0, 1, 2, 3, 4, 5, 6] rfl ?_
  exact k
theorem sg_M_waysAlong_206_ff206 {K : KX} {G : GG} {w0 : va_W} {Q : State → Prop} (X : Bd K G w0 "FirstTreesModel" c_M_waysAlong 11 none rm_M_waysAlong) (σ : St) (x1 : Int32) (x2 : Int32) (x3 : Int32) (x4 : Int32) (x5 : Int32) (x6 : Int32) (x7 : Int32) (x8 : Int64) (x10 : Int32) (n237 : Nat) (n244 : Nat) (n254 : Nat) (c212 : ¬ (xi σ 0 3) < x10) (c221 : ¬ (shrL x8 x10) = 0) (e237 : x10 = nI n237) (h237 : n237 < 61) (e244 : x6 = nI n244) (h244 : n244 < 61) (e254 : (x7 + x10) = nI n254) (h254 : n254 < 59536) (k : Lb K G w0 Q 11 206 [(0, .ref (xa σ 0)), (1, .int x1), (2, .int x2), (3, .int x3), (4, .int x4), (5, .int x5), (6, .int x6), (7, .int x7), (8, .long x8), (10, .int (x10 + 1))] [] (WM G (wl σ 13 n237 (capL ((xl σ 13 n237) + (capL ((xl σ 12 n244) * (xl σ 11 n254))))))) 0 0) : Lb K G w0 Q 11 206 [(0, .ref (xa σ 0)), (1, .int x1), (2, .int x2), (3, .int x3), (4, .int x4), (5, .int x5), (6, .int x6), (7, .int x7), (8, .long x8), (10, .int x10)] [] (WM G σ) 0 0 := by
  refine b_iload X d_M_waysAlong_206 9 rfl ?_
  refine b_aload_n X d_M_waysAlong_208 0 rfl rfl ?_
  refine b_get X fl_M_105 0 rfl (v := .int (xi σ 0 3)) rfl d_M_waysAlong_209 ?_
  refine b_icmp_gt X (tgt := 270) d_M_waysAlong_212 (by decide) (fun h => absurd h c212) (fun _ => ?_)
  refine b_lload X d_M_waysAlong_215 8 rfl ?_
  refine b_iload X d_M_waysAlong_217 9 rfl ?_
  refine b_lshr X (v := (shrL x8 x10)) d_M_waysAlong_219 rfl ?_
  refine b_lconst X (v := 0) d_M_waysAlong_220 rfl ?_
  refine b_l_eq X (tgt := 270) d_M_waysAlong_221 d_M_waysAlong_222 (by decide) (fun h => absurd h c221) (fun _ => ?_)
  refine b_aload_n X d_M_waysAlong_225 0 rfl rfl ?_
  refine b_get X fl_M_49 0 rfl (v := .ref (xa σ 13)) rfl d_M_waysAlong_226 ?_
  refine b_iload X d_M_waysAlong_229 9 rfl ?_
  refine b_aload_n X d_M_waysAlong_231 0 rfl rfl ?_
  refine b_get X fl_M_49 0 rfl (v := .ref (xa σ 13)) rfl d_M_waysAlong_232 ?_
  refine b_iload X d_M_waysAlong_235 9 rfl ?_
  refine b_lald X 13 rfl (by decide) n237 e237 h237 d_M_waysAlong_237 ?_
  refine b_aload_n X d_M_waysAlong_238 0 rfl rfl ?_
  refine b_get X fl_M_46 0 rfl (v := .ref (xa σ 12)) rfl d_M_waysAlong_239 ?_
  refine b_iload X d_M_waysAlong_242 6 rfl ?_
  refine b_lald X 12 rfl (by decide) n244 e244 h244 d_M_waysAlong_244 ?_
  refine b_aload_n X d_M_waysAlong_245 0 rfl rfl ?_
  refine b_get X fl_M_43 0 rfl (v := .ref (xa σ 11)) rfl d_M_waysAlong_246 ?_
  refine b_iload X d_M_waysAlong_249 7 rfl ?_
  refine b_iload X d_M_waysAlong_251 9 rfl ?_
  refine b_iadd X d_M_waysAlong_253 ?_
  refine b_lald X 11 rfl (by decide) n254 e254 h254 d_M_waysAlong_254 ?_
  refine b_lmul X d_M_waysAlong_255 ?_
  refine b_dS X cf_M_capped ci_M_capped ml_M_128 (ct_M_capped G σ ((xl σ 12 n244) * (xl σ 11 n254))) (As := [.long ((xl σ 12 n244) * (xl σ 11 n254))]) (rest := [.long (xl σ 13 n237), .int x10, .ref (xa σ 13)]) rfl (Nat.le_of_ble_eq_true rfl) ⟨Nat.le_of_ble_eq_true rfl, Nat.le_of_ble_eq_true rfl⟩ ⟨Nat.le_of_ble_eq_true rfl, Nat.le_of_ble_eq_true rfl⟩ rfl rfl d_M_waysAlong_256 ?_
  refine b_ladd X d_M_waysAlong_259 ?_
  refine b_dS X cf_M_capped ci_M_capped ml_M_128 (ct_M_capped G σ ((xl σ 13 n237) + (capL ((xl σ 12 n244) * (xl σ 11 n254))))) (As := [.long ((xl σ 13 n237) + (capL ((xl σ 12 n244) * (xl σ 11 n254))))]) (rest := [.int x10, .ref (xa σ 13)]) rfl (Nat.le_of_ble_eq_true rfl) ⟨Nat.le_of_ble_eq_true rfl, Nat.le_of_ble_eq_true rfl⟩ ⟨Nat.le_of_ble_eq_true rfl, Nat.le_of_ble_eq_true rfl⟩ rfl rfl d_M_waysAlong_260 ?_
  refine b_last X 13 rfl (by decide) n237 e237 h237 (uWM_13 G σ n237 (capL ((xl σ 13 n237) + (capL ((xl σ 12 n244) * (xl σ 11 n254)))))) d_M_waysAlong_263 ?_
  refine b_iinc X (lv' := [(0, .ref (xa σ 0)), (1, .int x1), (2, .int x2), (3, .int x3), (4, .int x4), (5, .int x5), (6, .int x6), (7, .int x7), (8, .long x8), (10, .int (x10 + 1))]) d_M_waysAlong_264 9 rfl (v := (x10 + 1)) rfl (by decide) [1, 2, 3, 4, 5, 6, 7, 8, 9, 0] rfl ?_
  refine b_goto X (tgt := 206) d_M_waysAlong_267 (by decide) ?_
  exact k
theorem sg_M_waysAlong_279_t37 {K : KX} {G : GG} {w0 : va_W} {Q : State → Prop} (X : Bd K G w0 "FirstTreesModel" c_M_waysAlong 11 none rm_M_waysAlong) (σ : St) (x1 : Int32) (x2 : Int32) (x3 : Int32) (x4 : Int32) (x5 : Int32) (x6 : Int32)  (c283 : 60 < x6) (k : Lb K G w0 Q 11 37 [(0, .ref (xa σ 0)), (1, .int x1), (2, .int x2), (3, .int x3), (4, .int (x4 + 1))] [] (WM G σ) 0 0) : Lb K G w0 Q 11 279 [(0, .ref (xa σ 0)), (1, .int x1), (2, .int x2), (3, .int x3), (4, .int x4), (5, .int x5), (6, .int x6)] [] (WM G σ) 0 0 := by
  refine b_iload X d_M_waysAlong_279 6 rfl ?_
  refine b_bipush X (v := 60) d_M_waysAlong_281 (by decide) ?_
  refine b_icmp_gt X (tgt := 306) d_M_waysAlong_283 (by decide) (fun _ => ?_) (fun h => absurd c283 h)
  refine b_iinc X (lv' := [(0, .ref (xa σ 0)), (1, .int x1), (2, .int x2), (3, .int x3), (4, .int (x4 + 1)), (5, .int x5), (6, .int x6)]) d_M_waysAlong_306 4 rfl (v := (x4 + 1)) rfl (by decide) [1, 2, 3, 4, 0, 5, 6] rfl ?_
  refine b_goto X (tgt := 37) d_M_waysAlong_309 (by decide) ?_
  refine Lb.pick (lv' := [(0, .ref (xa σ 0)), (1, .int x1), (2, .int x2), (3, .int x3), (4, .int (x4 + 1))]) [0, 1, 2, 3, 4] rfl ?_
  exact k
theorem sg_M_waysAlong_279_f279 {K : KX} {G : GG} {w0 : va_W} {Q : State → Prop} (X : Bd K G w0 "FirstTreesModel" c_M_waysAlong 11 none rm_M_waysAlong) (σ : St) (x1 : Int32) (x2 : Int32) (x3 : Int32) (x4 : Int32) (x5 : Int32) (x6 : Int32) (n298 : Nat) (c283 : ¬ 60 < x6) (e298 : x6 = nI n298) (h298 : n298 < 61) (k : Lb K G w0 Q 11 279 [(0, .ref (xa σ 0)), (1, .int x1), (2, .int x2), (3, .int x3), (4, .int x4), (5, .int x5), (6, .int (x6 + 1))] [] (WM G (wl σ 12 n298 (xl σ 13 n298))) 0 0) : Lb K G w0 Q 11 279 [(0, .ref (xa σ 0)), (1, .int x1), (2, .int x2), (3, .int x3), (4, .int x4), (5, .int x5), (6, .int x6)] [] (WM G σ) 0 0 := by
  refine b_iload X d_M_waysAlong_279 6 rfl ?_
  refine b_bipush X (v := 60) d_M_waysAlong_281 (by decide) ?_
  refine b_icmp_gt X (tgt := 306) d_M_waysAlong_283 (by decide) (fun h => absurd h c283) (fun _ => ?_)
  refine b_aload_n X d_M_waysAlong_286 0 rfl rfl ?_
  refine b_get X fl_M_46 0 rfl (v := .ref (xa σ 12)) rfl d_M_waysAlong_287 ?_
  refine b_iload X d_M_waysAlong_290 6 rfl ?_
  refine b_aload_n X d_M_waysAlong_292 0 rfl rfl ?_
  refine b_get X fl_M_49 0 rfl (v := .ref (xa σ 13)) rfl d_M_waysAlong_293 ?_
  refine b_iload X d_M_waysAlong_296 6 rfl ?_
  refine b_lald X 13 rfl (by decide) n298 e298 h298 d_M_waysAlong_298 ?_
  refine b_last X 12 rfl (by decide) n298 e298 h298 (uWM_12 G σ n298 (xl σ 13 n298)) d_M_waysAlong_299 ?_
  refine b_iinc X (lv' := [(0, .ref (xa σ 0)), (1, .int x1), (2, .int x2), (3, .int x3), (4, .int x4), (5, .int x5), (6, .int (x6 + 1))]) d_M_waysAlong_300 6 rfl (v := (x6 + 1)) rfl (by decide) [1, 2, 3, 4, 5, 6, 0] rfl ?_
  refine b_goto X (tgt := 279) d_M_waysAlong_303 (by decide) ?_
  exact k
theorem sg_M_before_0_6 {K : KX} {G : GG} {w0 : va_W} {Q : State → Prop} (X : Bd K G w0 "FirstTreesModel" c_M_before 8 (some .long) rm_M_before) (σ : St) (x1 : Int64) (x3 : Int32)   (k : Lb K G w0 Q 8 6 [(0, .ref (xa σ 0)), (1, .long x1), (3, .int x3), (4, .long 0), (6, .int 0)] [] (WM G σ) 0 0) : Lb K G w0 Q 8 0 [(0, .ref (xa σ 0)), (1, .long x1), (3, .int x3)] [] (WM G σ) 0 0 := by
  refine b_lconst X (v := 0) d_M_before_0 rfl ?_
  refine b_lstore X (lv' := [(0, .ref (xa σ 0)), (1, .long x1), (3, .int x3), (4, .long 0)]) d_M_before_1 (by decide) [1, 2, 3, 0] rfl ?_
  refine b_iconst X (v := 0) d_M_before_3 (by decide) ?_
  refine b_istore X (lv' := [(0, .ref (xa σ 0)), (1, .long x1), (3, .int x3), (4, .long 0), (6, .int 0)]) d_M_before_4 (by decide) [1, 2, 3, 4, 0] rfl ?_
  exact k
theorem sg_M_before_6_tr {K : KX} {G : GG} {w0 : va_W} {post : PostT} (X : Bd K G w0 "FirstTreesModel" c_M_before 8 (some .long) rm_M_before) (σ : St) (x1 : Int64) (x3 : Int32) (x4 : Int64) (x6 : Int32)  (c12 : (xi σ 0 3) < x6) (hp : post (some (.long x4)) (WM G σ)) : Lb K G w0 (Qe K G w0 post rm_M_before) 8 6 [(0, .ref (xa σ 0)), (1, .long x1), (3, .int x3), (4, .long x4), (6, .int x6)] [] (WM G σ) 0 0 := by
  refine b_iload X d_M_before_6 4 rfl ?_
  refine b_aload_n X d_M_before_8 0 rfl rfl ?_
  refine b_get X fl_M_105 0 rfl (v := .int (xi σ 0 3)) rfl d_M_before_9 ?_
  refine b_icmp_gt X (tgt := 116) d_M_before_12 (by decide) (fun _ => ?_) (fun h => absurd c12 h)
  refine b_lload X d_M_before_116 3 rfl ?_
  exact b_lret X d_M_before_118 hp
theorem sg_M_before_6_ftt6 {K : KX} {G : GG} {w0 : va_W} {Q : State → Prop} (X : Bd K G w0 "FirstTreesModel" c_M_before 8 (some .long) rm_M_before) (σ : St) (x1 : Int64) (x3 : Int32) (x4 : Int64) (x6 : Int32)  (c12 : ¬ (xi σ 0 3) < x6) (c19 : (b2i (x3 < 0)) = 0) (c57 : (xi σ 0 3) ≤ x6) (k : Lb K G w0 Q 8 6 [(0, .ref (xa σ 0)), (1, .long x1), (3, .int x3), (4, .long x4), (6, .int (x6 + 1))] [] (WM G σ) 0 0) : Lb K G w0 Q 8 6 [(0, .ref (xa σ 0)), (1, .long x1), (3, .int x3), (4, .long x4), (6, .int x6)] [] (WM G σ) 0 0 := by
  refine b_iload X d_M_before_6 4 rfl ?_
  refine b_aload_n X d_M_before_8 0 rfl rfl ?_
  refine b_get X fl_M_105 0 rfl (v := .int (xi σ 0 3)) rfl d_M_before_9 ?_
  refine b_icmp_gt X (tgt := 116) d_M_before_12 (by decide) (fun h => absurd h c12) (fun _ => ?_)
  refine b_iload_n X d_M_before_15 2 rfl rfl ?_
  refine b_dS X cf_M_isRule ci_M_isRule ml_M_85 (ct_M_isRule G σ x3) (As := [.int x3]) (rest := []) rfl (Nat.le_of_ble_eq_true rfl) ⟨Nat.le_of_ble_eq_true rfl, Nat.le_of_ble_eq_true rfl⟩ ⟨Nat.le_of_ble_eq_true rfl, Nat.le_of_ble_eq_true rfl⟩ rfl rfl d_M_before_16 ?_
  refine b_if_eq X (tgt := 51) d_M_before_19 (by decide) (fun _ => ?_) (fun h => absurd c19 h)
  refine b_iload X d_M_before_51 4 rfl ?_
  refine b_aload_n X d_M_before_53 0 rfl rfl ?_
  refine b_get X fl_M_105 0 rfl (v := .int (xi σ 0 3)) rfl d_M_before_54 ?_
  refine b_icmp_ge X (tgt := 88) d_M_before_57 (by decide) (fun _ => ?_) (fun h => absurd c57 h)
  refine b_iconst X (v := 0) d_M_before_88 (by decide) ?_
  refine b_istore X (lv' := [(0, .ref (xa σ 0)), (1, .long x1), (3, .int x3), (4, .long x4), (6, .int x6), (7, .int 0)]) d_M_before_89 (by decide) [1, 2, 3, 4, 5, 0] rfl ?_
  refine b_iload X d_M_before_91 5 rfl ?_
  refine b_if_eq X (tgt := 106) d_M_before_93 (by decide) (fun _ => ?_) (fun h => absurd h (by decide))
  refine b_lload X d_M_before_106 3 rfl ?_
  refine b_lstore X (lv' := [(0, .ref (xa σ 0)), (1, .long x1), (3, .int x3), (4, .long x4), (6, .int x6), (7, .int 0)]) d_M_before_108 (by decide) [1, 2, 3, 0, 4, 5] rfl ?_
  refine b_iinc X (lv' := [(0, .ref (xa σ 0)), (1, .long x1), (3, .int x3), (4, .long x4), (6, .int (x6 + 1)), (7, .int 0)]) d_M_before_110 4 rfl (v := (x6 + 1)) rfl (by decide) [1, 2, 3, 4, 0, 5] rfl ?_
  refine b_goto X (tgt := 6) d_M_before_113 (by decide) ?_
  refine Lb.pick (lv' := [(0, .ref (xa σ 0)), (1, .long x1), (3, .int x3), (4, .long x4), (6, .int (x6 + 1))]) [0, 1, 2, 3, 4] rfl ?_
  exact k
theorem sg_M_before_6_ftft6 {K : KX} {G : GG} {w0 : va_W} {Q : State → Prop} (X : Bd K G w0 "FirstTreesModel" c_M_before 8 (some .long) rm_M_before) (σ : St) (x1 : Int64) (x3 : Int32) (x4 : Int64) (x6 : Int32) (n66 : Nat) (c12 : ¬ (xi σ 0 3) < x6) (c19 : (b2i (x3 < 0)) = 0) (c57 : ¬ (xi σ 0 3) ≤ x6) (e66 : x6 = nI n66) (h66 : n66 < 60) (c68 : ¬ (xi σ 7 n66) = x3) (k : Lb K G w0 Q 8 6 [(0, .ref (xa σ 0)), (1, .long x1), (3, .int x3), (4, .long x4), (6, .int (x6 + 1))] [] (WM G σ) 0 0) : Lb K G w0 Q 8 6 [(0, .ref (xa σ 0)), (1, .long x1), (3, .int x3), (4, .long x4), (6, .int x6)] [] (WM G σ) 0 0 := by
  refine b_iload X d_M_before_6 4 rfl ?_
  refine b_aload_n X d_M_before_8 0 rfl rfl ?_
  refine b_get X fl_M_105 0 rfl (v := .int (xi σ 0 3)) rfl d_M_before_9 ?_
  refine b_icmp_gt X (tgt := 116) d_M_before_12 (by decide) (fun h => absurd h c12) (fun _ => ?_)
  refine b_iload_n X d_M_before_15 2 rfl rfl ?_
  refine b_dS X cf_M_isRule ci_M_isRule ml_M_85 (ct_M_isRule G σ x3) (As := [.int x3]) (rest := []) rfl (Nat.le_of_ble_eq_true rfl) ⟨Nat.le_of_ble_eq_true rfl, Nat.le_of_ble_eq_true rfl⟩ ⟨Nat.le_of_ble_eq_true rfl, Nat.le_of_ble_eq_true rfl⟩ rfl rfl d_M_before_16 ?_
  refine b_if_eq X (tgt := 51) d_M_before_19 (by decide) (fun _ => ?_) (fun h => absurd c19 h)
  refine b_iload X d_M_before_51 4 rfl ?_
  refine b_aload_n X d_M_before_53 0 rfl rfl ?_
  refine b_get X fl_M_105 0 rfl (v := .int (xi σ 0 3)) rfl d_M_before_54 ?_
  refine b_icmp_ge X (tgt := 88) d_M_before_57 (by decide) (fun h => absurd h c57) (fun _ => ?_)
  refine b_aload_n X d_M_before_60 0 rfl rfl ?_
  refine b_get X fl_M_29 0 rfl (v := .ref (xa σ 7)) rfl d_M_before_61 ?_
  refine b_iload X d_M_before_64 4 rfl ?_
  refine b_iald X 7 rfl (by decide) n66 e66 h66 d_M_before_66 ?_
  refine b_iload_n X d_M_before_67 2 rfl rfl ?_
  refine b_icmp_ne X (tgt := 88) d_M_before_68 (by decide) (fun _ => ?_) (fun h => absurd h c68)
  refine b_iconst X (v := 0) d_M_before_88 (by decide) ?_
  refine b_istore X (lv' := [(0, .ref (xa σ 0)), (1, .long x1), (3, .int x3), (4, .long x4), (6, .int x6), (7, .int 0)]) d_M_before_89 (by decide) [1, 2, 3, 4, 5, 0] rfl ?_
  refine b_iload X d_M_before_91 5 rfl ?_
  refine b_if_eq X (tgt := 106) d_M_before_93 (by decide) (fun _ => ?_) (fun h => absurd h (by decide))
  refine b_lload X d_M_before_106 3 rfl ?_
  refine b_lstore X (lv' := [(0, .ref (xa σ 0)), (1, .long x1), (3, .int x3), (4, .long x4), (6, .int x6), (7, .int 0)]) d_M_before_108 (by decide) [1, 2, 3, 0, 4, 5] rfl ?_
  refine b_iinc X (lv' := [(0, .ref (xa σ 0)), (1, .long x1), (3, .int x3), (4, .long x4), (6, .int (x6 + 1)), (7, .int 0)]) d_M_before_110 4 rfl (v := (x6 + 1)) rfl (by decide) [1, 2, 3, 4, 0, 5] rfl ?_
  refine b_goto X (tgt := 6) d_M_before_113 (by decide) ?_
  refine Lb.pick (lv' := [(0, .ref (xa σ 0)), (1, .long x1), (3, .int x3), (4, .long x4), (6, .int (x6 + 1))]) [0, 1, 2, 3, 4] rfl ?_
  exact k
theorem sg_M_before_6_ftfft6 {K : KX} {G : GG} {w0 : va_W} {Q : State → Prop} (X : Bd K G w0 "FirstTreesModel" c_M_before 8 (some .long) rm_M_before) (σ : St) (x1 : Int64) (x3 : Int32) (x4 : Int64) (x6 : Int32) (n66 : Nat) (c12 : ¬ (xi σ 0 3) < x6) (c19 : (b2i (x3 < 0)) = 0) (c57 : ¬ (xi σ 0 3) ≤ x6) (e66 : x6 = nI n66) (h66 : n66 < 60) (c68 : (xi σ 7 n66) = x3) (c80 : ¬ ((shrL x1 (x6 + 1)) &&& 1) = 1) (k : Lb K G w0 Q 8 6 [(0, .ref (xa σ 0)), (1, .long x1), (3, .int x3), (4, .long x4), (6, .int (x6 + 1))] [] (WM G σ) 0 0) : Lb K G w0 Q 8 6 [(0, .ref (xa σ 0)), (1, .long x1), (3, .int x3), (4, .long x4), (6, .int x6)] [] (WM G σ) 0 0 := by
  refine b_iload X d_M_before_6 4 rfl ?_
  refine b_aload_n X d_M_before_8 0 rfl rfl ?_
  refine b_get X fl_M_105 0 rfl (v := .int (xi σ 0 3)) rfl d_M_before_9 ?_
  refine b_icmp_gt X (tgt := 116) d_M_before_12 (by decide) (fun h => absurd h c12) (fun _ => ?_)
  refine b_iload_n X d_M_before_15 2 rfl rfl ?_
  refine b_dS X cf_M_isRule ci_M_isRule ml_M_85 (ct_M_isRule G σ x3) (As := [.int x3]) (rest := []) rfl (Nat.le_of_ble_eq_true rfl) ⟨Nat.le_of_ble_eq_true rfl, Nat.le_of_ble_eq_true rfl⟩ ⟨Nat.le_of_ble_eq_true rfl, Nat.le_of_ble_eq_true rfl⟩ rfl rfl d_M_before_16 ?_
  refine b_if_eq X (tgt := 51) d_M_before_19 (by decide) (fun _ => ?_) (fun h => absurd c19 h)
  refine b_iload X d_M_before_51 4 rfl ?_
  refine b_aload_n X d_M_before_53 0 rfl rfl ?_
  refine b_get X fl_M_105 0 rfl (v := .int (xi σ 0 3)) rfl d_M_before_54 ?_
  refine b_icmp_ge X (tgt := 88) d_M_before_57 (by decide) (fun h => absurd h c57) (fun _ => ?_)
  refine b_aload_n X d_M_before_60 0 rfl rfl ?_
  refine b_get X fl_M_29 0 rfl (v := .ref (xa σ 7)) rfl d_M_before_61 ?_
  refine b_iload X d_M_before_64 4 rfl ?_
  refine b_iald X 7 rfl (by decide) n66 e66 h66 d_M_before_66 ?_
  refine b_iload_n X d_M_before_67 2 rfl rfl ?_
  refine b_icmp_ne X (tgt := 88) d_M_before_68 (by decide) (fun h => absurd c68 h) (fun _ => ?_)
  refine b_lload_n X d_M_before_71 1 rfl rfl ?_
  refine b_iload X d_M_before_72 4 rfl ?_
  refine b_iconst X (v := 1) d_M_before_74 (by decide) ?_
  refine b_iadd X d_M_before_75 ?_
  refine b_lshr X (v := (shrL x1 (x6 + 1))) d_M_before_76 rfl ?_
  refine b_lconst X (v := 1) d_M_before_77 rfl ?_
  refine b_land X d_M_before_78 ?_
  refine b_lconst X (v := 1) d_M_before_79 rfl ?_
  refine b_l_ne X (tgt := 88) d_M_before_80 d_M_before_81 (by decide) (fun _ => ?_) (fun h => absurd h c80)
  refine b_iconst X (v := 0) d_M_before_88 (by decide) ?_
  refine b_istore X (lv' := [(0, .ref (xa σ 0)), (1, .long x1), (3, .int x3), (4, .long x4), (6, .int x6), (7, .int 0)]) d_M_before_89 (by decide) [1, 2, 3, 4, 5, 0] rfl ?_
  refine b_iload X d_M_before_91 5 rfl ?_
  refine b_if_eq X (tgt := 106) d_M_before_93 (by decide) (fun _ => ?_) (fun h => absurd h (by decide))
  refine b_lload X d_M_before_106 3 rfl ?_
  refine b_lstore X (lv' := [(0, .ref (xa σ 0)), (1, .long x1), (3, .int x3), (4, .long x4), (6, .int x6), (7, .int 0)]) d_M_before_108 (by decide) [1, 2, 3, 0, 4, 5] rfl ?_
  refine b_iinc X (lv' := [(0, .ref (xa σ 0)), (1, .long x1), (3, .int x3), (4, .long x4), (6, .int (x6 + 1)), (7, .int 0)]) d_M_before_110 4 rfl (v := (x6 + 1)) rfl (by decide) [1, 2, 3, 4, 0, 5] rfl ?_
  refine b_goto X (tgt := 6) d_M_before_113 (by decide) ?_
  refine Lb.pick (lv' := [(0, .ref (xa σ 0)), (1, .long x1), (3, .int x3), (4, .long x4), (6, .int (x6 + 1))]) [0, 1, 2, 3, 4] rfl ?_
  exact k
theorem sg_M_before_6_ftfff6 {K : KX} {G : GG} {w0 : va_W} {Q : State → Prop} (X : Bd K G w0 "FirstTreesModel" c_M_before 8 (some .long) rm_M_before) (σ : St) (x1 : Int64) (x3 : Int32) (x4 : Int64) (x6 : Int32) (n66 : Nat) (c12 : ¬ (xi σ 0 3) < x6) (c19 : (b2i (x3 < 0)) = 0) (c57 : ¬ (xi σ 0 3) ≤ x6) (e66 : x6 = nI n66) (h66 : n66 < 60) (c68 : (xi σ 7 n66) = x3) (c80 : ((shrL x1 (x6 + 1)) &&& 1) = 1) (k : Lb K G w0 Q 8 6 [(0, .ref (xa σ 0)), (1, .long x1), (3, .int x3), (4, .long (x4 ||| (shlL 1 x6))), (6, .int (x6 + 1))] [] (WM G σ) 0 0) : Lb K G w0 Q 8 6 [(0, .ref (xa σ 0)), (1, .long x1), (3, .int x3), (4, .long x4), (6, .int x6)] [] (WM G σ) 0 0 := by
  refine b_iload X d_M_before_6 4 rfl ?_
  refine b_aload_n X d_M_before_8 0 rfl rfl ?_
  refine b_get X fl_M_105 0 rfl (v := .int (xi σ 0 3)) rfl d_M_before_9 ?_
  refine b_icmp_gt X (tgt := 116) d_M_before_12 (by decide) (fun h => absurd h c12) (fun _ => ?_)
  refine b_iload_n X d_M_before_15 2 rfl rfl ?_
  refine b_dS X cf_M_isRule ci_M_isRule ml_M_85 (ct_M_isRule G σ x3) (As := [.int x3]) (rest := []) rfl (Nat.le_of_ble_eq_true rfl) ⟨Nat.le_of_ble_eq_true rfl, Nat.le_of_ble_eq_true rfl⟩ ⟨Nat.le_of_ble_eq_true rfl, Nat.le_of_ble_eq_true rfl⟩ rfl rfl d_M_before_16 ?_
  refine b_if_eq X (tgt := 51) d_M_before_19 (by decide) (fun _ => ?_) (fun h => absurd c19 h)
  refine b_iload X d_M_before_51 4 rfl ?_
  refine b_aload_n X d_M_before_53 0 rfl rfl ?_
  refine b_get X fl_M_105 0 rfl (v := .int (xi σ 0 3)) rfl d_M_before_54 ?_
  refine b_icmp_ge X (tgt := 88) d_M_before_57 (by decide) (fun h => absurd h c57) (fun _ => ?_)
  refine b_aload_n X d_M_before_60 0 rfl rfl ?_
  refine b_get X fl_M_29 0 rfl (v := .ref (xa σ 7)) rfl d_M_before_61 ?_
  refine b_iload X d_M_before_64 4 rfl ?_
  refine b_iald X 7 rfl (by decide) n66 e66 h66 d_M_before_66 ?_
  refine b_iload_n X d_M_before_67 2 rfl rfl ?_
  refine b_icmp_ne X (tgt := 88) d_M_before_68 (by decide) (fun h => absurd c68 h) (fun _ => ?_)
  refine b_lload_n X d_M_before_71 1 rfl rfl ?_
  refine b_iload X d_M_before_72 4 rfl ?_
  refine b_iconst X (v := 1) d_M_before_74 (by decide) ?_
  refine b_iadd X d_M_before_75 ?_
  refine b_lshr X (v := (shrL x1 (x6 + 1))) d_M_before_76 rfl ?_
  refine b_lconst X (v := 1) d_M_before_77 rfl ?_
  refine b_land X d_M_before_78 ?_
  refine b_lconst X (v := 1) d_M_before_79 rfl ?_
  refine b_l_ne X (tgt := 88) d_M_before_80 d_M_before_81 (by decide) (fun h => absurd c80 h) (fun _ => ?_)
  refine b_iconst X (v := 1) d_M_before_84 (by decide) ?_
  refine b_goto X (tgt := 89) d_M_before_85 (by decide) ?_
  refine b_istore X (lv' := [(0, .ref (xa σ 0)), (1, .long x1), (3, .int x3), (4, .long x4), (6, .int x6), (7, .int 1)]) d_M_before_89 (by decide) [1, 2, 3, 4, 5, 0] rfl ?_
  refine b_iload X d_M_before_91 5 rfl ?_
  refine b_if_eq X (tgt := 106) d_M_before_93 (by decide) (fun h => absurd h (by decide)) (fun _ => ?_)
  refine b_lload X d_M_before_96 3 rfl ?_
  refine b_lconst X (v := 1) d_M_before_98 rfl ?_
  refine b_iload X d_M_before_99 4 rfl ?_
  refine b_lshl X (v := (shlL 1 x6)) d_M_before_101 rfl ?_
  refine b_lor X d_M_before_102 ?_
  refine b_goto X (tgt := 108) d_M_before_103 (by decide) ?_
  refine b_lstore X (lv' := [(0, .ref (xa σ 0)), (1, .long x1), (3, .int x3), (4, .long (x4 ||| (shlL 1 x6))), (6, .int x6), (7, .int 1)]) d_M_before_108 (by decide) [1, 2, 3, 0, 4, 5] rfl ?_
  refine b_iinc X (lv' := [(0, .ref (xa σ 0)), (1, .long x1), (3, .int x3), (4, .long (x4 ||| (shlL 1 x6))), (6, .int (x6 + 1)), (7, .int 1)]) d_M_before_110 4 rfl (v := (x6 + 1)) rfl (by decide) [1, 2, 3, 4, 0, 5] rfl ?_
  refine b_goto X (tgt := 6) d_M_before_113 (by decide) ?_
  refine Lb.pick (lv' := [(0, .ref (xa σ 0)), (1, .long x1), (3, .int x3), (4, .long (x4 ||| (shlL 1 x6))), (6, .int (x6 + 1))]) [0, 1, 2, 3, 4] rfl ?_
  exact k
theorem sg_M_before_6_fft6 {K : KX} {G : GG} {w0 : va_W} {Q : State → Prop} (X : Bd K G w0 "FirstTreesModel" c_M_before 8 (some .long) rm_M_before) (σ : St) (x1 : Int64) (x3 : Int32) (x4 : Int64) (x6 : Int32) (n35 : Nat) (c12 : ¬ (xi σ 0 3) < x6) (c19 : ¬ (b2i (x3 < 0)) = 0) (e35 : ((61 * ((-1) - x3)) + x6) = nI n35) (h35 : n35 < 976) (c39 : ((xl σ 8 n35) &&& x1) = 0) (k : Lb K G w0 Q 8 6 [(0, .ref (xa σ 0)), (1, .long x1), (3, .int x3), (4, .long x4), (6, .int (x6 + 1))] [] (WM G σ) 0 0) : Lb K G w0 Q 8 6 [(0, .ref (xa σ 0)), (1, .long x1), (3, .int x3), (4, .long x4), (6, .int x6)] [] (WM G σ) 0 0 := by
  refine b_iload X d_M_before_6 4 rfl ?_
  refine b_aload_n X d_M_before_8 0 rfl rfl ?_
  refine b_get X fl_M_105 0 rfl (v := .int (xi σ 0 3)) rfl d_M_before_9 ?_
  refine b_icmp_gt X (tgt := 116) d_M_before_12 (by decide) (fun h => absurd h c12) (fun _ => ?_)
  refine b_iload_n X d_M_before_15 2 rfl rfl ?_
  refine b_dS X cf_M_isRule ci_M_isRule ml_M_85 (ct_M_isRule G σ x3) (As := [.int x3]) (rest := []) rfl (Nat.le_of_ble_eq_true rfl) ⟨Nat.le_of_ble_eq_true rfl, Nat.le_of_ble_eq_true rfl⟩ ⟨Nat.le_of_ble_eq_true rfl, Nat.le_of_ble_eq_true rfl⟩ rfl rfl d_M_before_16 ?_
  refine b_if_eq X (tgt := 51) d_M_before_19 (by decide) (fun h => absurd h c19) (fun _ => ?_)
  refine b_aload_n X d_M_before_22 0 rfl rfl ?_
  refine b_get X fl_M_32 0 rfl (v := .ref (xa σ 8)) rfl d_M_before_23 ?_
  refine b_bipush X (v := 61) d_M_before_26 (by decide) ?_
  refine b_iconst X (v := (-1)) d_M_before_28 (by decide) ?_
  refine b_iload_n X d_M_before_29 2 rfl rfl ?_
  refine b_isub X d_M_before_30 ?_
  refine b_imul X d_M_before_31 ?_
  refine b_iload X d_M_before_32 4 rfl ?_
  refine b_iadd X d_M_before_34 ?_
  refine b_lald X 8 rfl (by decide) n35 e35 h35 d_M_before_35 ?_
  refine b_lload_n X d_M_before_36 1 rfl rfl ?_
  refine b_land X d_M_before_37 ?_
  refine b_lconst X (v := 0) d_M_before_38 rfl ?_
  refine b_l_eq X (tgt := 47) d_M_before_39 d_M_before_40 (by decide) (fun _ => ?_) (fun h => absurd c39 h)
  refine b_iconst X (v := 0) d_M_before_47 (by decide) ?_
  refine b_goto X (tgt := 89) d_M_before_48 (by decide) ?_
  refine b_istore X (lv' := [(0, .ref (xa σ 0)), (1, .long x1), (3, .int x3), (4, .long x4), (6, .int x6), (7, .int 0)]) d_M_before_89 (by decide) [1, 2, 3, 4, 5, 0] rfl ?_
  refine b_iload X d_M_before_91 5 rfl ?_
  refine b_if_eq X (tgt := 106) d_M_before_93 (by decide) (fun _ => ?_) (fun h => absurd h (by decide))
  refine b_lload X d_M_before_106 3 rfl ?_
  refine b_lstore X (lv' := [(0, .ref (xa σ 0)), (1, .long x1), (3, .int x3), (4, .long x4), (6, .int x6), (7, .int 0)]) d_M_before_108 (by decide) [1, 2, 3, 0, 4, 5] rfl ?_
  refine b_iinc X (lv' := [(0, .ref (xa σ 0)), (1, .long x1), (3, .int x3), (4, .long x4), (6, .int (x6 + 1)), (7, .int 0)]) d_M_before_110 4 rfl (v := (x6 + 1)) rfl (by decide) [1, 2, 3, 4, 0, 5] rfl ?_
  refine b_goto X (tgt := 6) d_M_before_113 (by decide) ?_
  refine Lb.pick (lv' := [(0, .ref (xa σ 0)), (1, .long x1), (3, .int x3), (4, .long x4), (6, .int (x6 + 1))]) [0, 1, 2, 3, 4] rfl ?_
  exact k
theorem sg_M_before_6_fff6 {K : KX} {G : GG} {w0 : va_W} {Q : State → Prop} (X : Bd K G w0 "FirstTreesModel" c_M_before 8 (some .long) rm_M_before) (σ : St) (x1 : Int64) (x3 : Int32) (x4 : Int64) (x6 : Int32) (n35 : Nat) (c12 : ¬ (xi σ 0 3) < x6) (c19 : ¬ (b2i (x3 < 0)) = 0) (e35 : ((61 * ((-1) - x3)) + x6) = nI n35) (h35 : n35 < 976) (c39 : ¬ ((xl σ 8 n35) &&& x1) = 0) (k : Lb K G w0 Q 8 6 [(0, .ref (xa σ 0)), (1, .long x1), (3, .int x3), (4, .long (x4 ||| (shlL 1 x6))), (6, .int (x6 + 1))] [] (WM G σ) 0 0) : Lb K G w0 Q 8 6 [(0, .ref (xa σ 0)), (1, .long x1), (3, .int x3), (4, .long x4), (6, .int x6)] [] (WM G σ) 0 0 := by
  refine b_iload X d_M_before_6 4 rfl ?_
  refine b_aload_n X d_M_before_8 0 rfl rfl ?_
  refine b_get X fl_M_105 0 rfl (v := .int (xi σ 0 3)) rfl d_M_before_9 ?_
  refine b_icmp_gt X (tgt := 116) d_M_before_12 (by decide) (fun h => absurd h c12) (fun _ => ?_)
  refine b_iload_n X d_M_before_15 2 rfl rfl ?_
  refine b_dS X cf_M_isRule ci_M_isRule ml_M_85 (ct_M_isRule G σ x3) (As := [.int x3]) (rest := []) rfl (Nat.le_of_ble_eq_true rfl) ⟨Nat.le_of_ble_eq_true rfl, Nat.le_of_ble_eq_true rfl⟩ ⟨Nat.le_of_ble_eq_true rfl, Nat.le_of_ble_eq_true rfl⟩ rfl rfl d_M_before_16 ?_
  refine b_if_eq X (tgt := 51) d_M_before_19 (by decide) (fun h => absurd h c19) (fun _ => ?_)
  refine b_aload_n X d_M_before_22 0 rfl rfl ?_
  refine b_get X fl_M_32 0 rfl (v := .ref (xa σ 8)) rfl d_M_before_23 ?_
  refine b_bipush X (v := 61) d_M_before_26 (by decide) ?_
  refine b_iconst X (v := (-1)) d_M_before_28 (by decide) ?_
  refine b_iload_n X d_M_before_29 2 rfl rfl ?_
  refine b_isub X d_M_before_30 ?_
  refine b_imul X d_M_before_31 ?_
  refine b_iload X d_M_before_32 4 rfl ?_
  refine b_iadd X d_M_before_34 ?_
  refine b_lald X 8 rfl (by decide) n35 e35 h35 d_M_before_35 ?_
  refine b_lload_n X d_M_before_36 1 rfl rfl ?_
  refine b_land X d_M_before_37 ?_
  refine b_lconst X (v := 0) d_M_before_38 rfl ?_
  refine b_l_eq X (tgt := 47) d_M_before_39 d_M_before_40 (by decide) (fun h => absurd h c39) (fun _ => ?_)
  refine b_iconst X (v := 1) d_M_before_43 (by decide) ?_
  refine b_goto X (tgt := 89) d_M_before_44 (by decide) ?_
  refine b_istore X (lv' := [(0, .ref (xa σ 0)), (1, .long x1), (3, .int x3), (4, .long x4), (6, .int x6), (7, .int 1)]) d_M_before_89 (by decide) [1, 2, 3, 4, 5, 0] rfl ?_
  refine b_iload X d_M_before_91 5 rfl ?_
  refine b_if_eq X (tgt := 106) d_M_before_93 (by decide) (fun h => absurd h (by decide)) (fun _ => ?_)
  refine b_lload X d_M_before_96 3 rfl ?_
  refine b_lconst X (v := 1) d_M_before_98 rfl ?_
  refine b_iload X d_M_before_99 4 rfl ?_
  refine b_lshl X (v := (shlL 1 x6)) d_M_before_101 rfl ?_
  refine b_lor X d_M_before_102 ?_
  refine b_goto X (tgt := 108) d_M_before_103 (by decide) ?_
  refine b_lstore X (lv' := [(0, .ref (xa σ 0)), (1, .long x1), (3, .int x3), (4, .long (x4 ||| (shlL 1 x6))), (6, .int x6), (7, .int 1)]) d_M_before_108 (by decide) [1, 2, 3, 0, 4, 5] rfl ?_
  refine b_iinc X (lv' := [(0, .ref (xa σ 0)), (1, .long x1), (3, .int x3), (4, .long (x4 ||| (shlL 1 x6))), (6, .int (x6 + 1)), (7, .int 1)]) d_M_before_110 4 rfl (v := (x6 + 1)) rfl (by decide) [1, 2, 3, 4, 0, 5] rfl ?_
  refine b_goto X (tgt := 6) d_M_before_113 (by decide) ?_
  refine Lb.pick (lv' := [(0, .ref (xa σ 0)), (1, .long x1), (3, .int x3), (4, .long (x4 ||| (shlL 1 x6))), (6, .int (x6 + 1))]) [0, 1, 2, 3, 4] rfl ?_
  exact k
theorem sg_M_reachOf_0_24 {K : KX} {G : GG} {w0 : va_W} {Q : State → Prop} (X : Bd K G w0 "FirstTreesModel" c_M_reachOf 7 (some .int) rm_M_reachOf) (σ : St) (x1 : Int32) (x2 : Int32) (x3 : Int32) (r11 : Int64) (q11 : Sq) (t11 : Ct y_M_alongAlternative c_M_alongAlternative 8 (some .long) rm_M_alongAlternative G [.ref (xa σ 0), .long (shlL 1 x3), .int x1, .int x2] (WM G (wi σ 0 7 x3)) (eqp (some (.long r11)) (WM G (xa σ, q11)))) (k : Lb K G w0 Q 7 24 [(0, .ref (xa σ 0)), (1, .int x1), (2, .int x2), (3, .int x3), (4, .long r11), (6, .int ((xi (xa σ, q11) 0 6) - 1))] [] (WM G (xa σ, q11)) 0 0) : Lb K G w0 Q 7 0 [(0, .ref (xa σ 0)), (1, .int x1), (2, .int x2), (3, .int x3)] [] (WM G σ) 0 0 := by
  refine b_aload_n X d_M_reachOf_0 0 rfl rfl ?_
  refine b_iload_n X d_M_reachOf_1 3 rfl rfl ?_
  refine b_put X fl_M_108 pl_M_farthest 0 rfl rfl rfl (Nat.le_of_ble_eq_true rfl) (uWM_0_farthest G σ x3) d_M_reachOf_2 ?_
  refine b_aload_n X d_M_reachOf_5 0 rfl rfl ?_
  refine b_lconst X (v := 1) d_M_reachOf_6 rfl ?_
  refine b_iload_n X d_M_reachOf_7 3 rfl rfl ?_
  refine b_lshl X (v := (shlL 1 x3)) d_M_reachOf_8 rfl ?_
  refine b_iload_n X d_M_reachOf_9 1 rfl rfl ?_
  refine b_iload_n X d_M_reachOf_10 2 rfl rfl ?_
  refine b_dV X cf_M_alongAlternative ci_M_alongAlternative ml_M_118 t11 0 rfl rfl (As := [.long (shlL 1 x3), .int x1, .int x2]) (rest := []) rfl (Nat.le_of_ble_eq_true rfl) ⟨Nat.le_of_ble_eq_true rfl, Nat.le_of_ble_eq_true rfl⟩ ⟨Nat.le_of_ble_eq_true rfl, Nat.le_of_ble_eq_true rfl⟩ rfl rfl d_M_reachOf_11 ?_
  refine b_lstore X (lv' := [(0, .ref (xa σ 0)), (1, .int x1), (2, .int x2), (3, .int x3), (4, .long r11)]) d_M_reachOf_14 (by decide) [1, 2, 3, 4, 0] rfl ?_
  refine b_aload_n X d_M_reachOf_16 0 rfl rfl ?_
  refine b_get X fl_M_132 0 rfl (v := .int (xi (xa σ, q11) 0 6)) rfl d_M_reachOf_17 ?_
  refine b_iconst X (v := 1) d_M_reachOf_20 (by decide) ?_
  refine b_isub X d_M_reachOf_21 ?_
  refine b_istore X (lv' := [(0, .ref (xa σ 0)), (1, .int x1), (2, .int x2), (3, .int x3), (4, .long r11), (6, .int ((xi (xa σ, q11) 0 6) - 1))]) d_M_reachOf_22 (by decide) [1, 2, 3, 4, 5, 0] rfl ?_
  exact k
theorem sg_M_reachOf_24_t77 {K : KX} {G : GG} {w0 : va_W} {Q : State → Prop} (X : Bd K G w0 "FirstTreesModel" c_M_reachOf 7 (some .int) rm_M_reachOf) (σ : St) (x1 : Int32) (x2 : Int32) (x3 : Int32) (x4 : Int64) (x6 : Int32)  (c26 : x6 < 0) (k : Lb K G w0 Q 7 77 [(0, .ref (xa σ 0)), (1, .int x1), (2, .int x2), (3, .int x3), (4, .long x4), (6, .int 0)] [] (WM G σ) 0 0) : Lb K G w0 Q 7 24 [(0, .ref (xa σ 0)), (1, .int x1), (2, .int x2), (3, .int x3), (4, .long x4), (6, .int x6)] [] (WM G σ) 0 0 := by
  refine b_iload X d_M_reachOf_24 5 rfl ?_
  refine b_if_lt X (tgt := 74) d_M_reachOf_26 (by decide) (fun _ => ?_) (fun h => absurd c26 h)
  refine b_iconst X (v := 0) d_M_reachOf_74 (by decide) ?_
  refine b_istore X (lv' := [(0, .ref (xa σ 0)), (1, .int x1), (2, .int x2), (3, .int x3), (4, .long x4), (6, .int 0)]) d_M_reachOf_75 (by decide) [1, 2, 3, 4, 5, 0] rfl ?_
  exact k
theorem sg_M_reachOf_24_ft77 {K : KX} {G : GG} {w0 : va_W} {Q : State → Prop} (X : Bd K G w0 "FirstTreesModel" c_M_reachOf 7 (some .int) rm_M_reachOf) (σ : St) (x1 : Int32) (x2 : Int32) (x3 : Int32) (x4 : Int64) (x6 : Int32)  (c26 : ¬ x6 < 0) (c32 : x4 = 0) (k : Lb K G w0 Q 7 77 [(0, .ref (xa σ 0)), (1, .int x1), (2, .int x2), (3, .int x3), (4, .long x4), (6, .int 0)] [] (WM G σ) 0 0) : Lb K G w0 Q 7 24 [(0, .ref (xa σ 0)), (1, .int x1), (2, .int x2), (3, .int x3), (4, .long x4), (6, .int x6)] [] (WM G σ) 0 0 := by
  refine b_iload X d_M_reachOf_24 5 rfl ?_
  refine b_if_lt X (tgt := 74) d_M_reachOf_26 (by decide) (fun h => absurd h c26) (fun _ => ?_)
  refine b_lload X d_M_reachOf_29 4 rfl ?_
  refine b_lconst X (v := 0) d_M_reachOf_31 rfl ?_
  refine b_l_eq X (tgt := 74) d_M_reachOf_32 d_M_reachOf_33 (by decide) (fun _ => ?_) (fun h => absurd c32 h)
  refine b_iconst X (v := 0) d_M_reachOf_74 (by decide) ?_
  refine b_istore X (lv' := [(0, .ref (xa σ 0)), (1, .int x1), (2, .int x2), (3, .int x3), (4, .long x4), (6, .int 0)]) d_M_reachOf_75 (by decide) [1, 2, 3, 4, 5, 0] rfl ?_
  exact k
theorem sg_M_reachOf_24_fft24 {K : KX} {G : GG} {w0 : va_W} {Q : State → Prop} (X : Bd K G w0 "FirstTreesModel" c_M_reachOf 7 (some .int) rm_M_reachOf) (σ : St) (x1 : Int32) (x2 : Int32) (x3 : Int32) (x4 : Int64) (x6 : Int32) (n42 : Nat) (r63 : Int64) (q63 : Sq) (c26 : ¬ x6 < 0) (c32 : ¬ x4 = 0) (e42 : x6 = nI n42) (h42 : n42 < 20000) (c45 : (-100) < (xi σ 18 n42)) (t63 : Ct y_M_step c_M_step 8 (some .long) rm_M_step G [.ref (xa σ 0), .long x4, .int (xi σ 18 n42)] (WM G σ) (eqp (some (.long r63)) (WM G (xa σ, q63)))) (k : Lb K G w0 Q 7 24 [(0, .ref (xa σ 0)), (1, .int x1), (2, .int x2), (3, .int x3), (4, .long r63), (6, .int (x6 + (-1)))] [] (WM G (xa σ, q63)) 0 0) : Lb K G w0 Q 7 24 [(0, .ref (xa σ 0)), (1, .int x1), (2, .int x2), (3, .int x3), (4, .long x4), (6, .int x6)] [] (WM G σ) 0 0 := by
  refine b_iload X d_M_reachOf_24 5 rfl ?_
  refine b_if_lt X (tgt := 74) d_M_reachOf_26 (by decide) (fun h => absurd h c26) (fun _ => ?_)
  refine b_lload X d_M_reachOf_29 4 rfl ?_
  refine b_lconst X (v := 0) d_M_reachOf_31 rfl ?_
  refine b_l_eq X (tgt := 74) d_M_reachOf_32 d_M_reachOf_33 (by decide) (fun h => absurd h c32) (fun _ => ?_)
  refine b_aload_n X d_M_reachOf_36 0 rfl rfl ?_
  refine b_get X fl_M_64 0 rfl (v := .ref (xa σ 18)) rfl d_M_reachOf_37 ?_
  refine b_iload X d_M_reachOf_40 5 rfl ?_
  refine b_iald X 18 rfl (by decide) n42 e42 h42 d_M_reachOf_42 ?_
  refine b_bipush X (v := (-100)) d_M_reachOf_43 (by decide) ?_
  refine b_icmp_gt X (tgt := 53) d_M_reachOf_45 (by decide) (fun _ => ?_) (fun h => absurd c45 h)
  refine b_aload_n X d_M_reachOf_53 0 rfl rfl ?_
  refine b_lload X d_M_reachOf_54 4 rfl ?_
  refine b_aload_n X d_M_reachOf_56 0 rfl rfl ?_
  refine b_get X fl_M_64 0 rfl (v := .ref (xa σ 18)) rfl d_M_reachOf_57 ?_
  refine b_iload X d_M_reachOf_60 5 rfl ?_
  refine b_iald X 18 rfl (by decide) n42 e42 h42 d_M_reachOf_62 ?_
  refine b_dV X cf_M_step ci_M_step ml_M_111 t63 0 rfl rfl (As := [.long x4, .int (xi σ 18 n42)]) (rest := []) rfl (Nat.le_of_ble_eq_true rfl) ⟨Nat.le_of_ble_eq_true rfl, Nat.le_of_ble_eq_true rfl⟩ ⟨Nat.le_of_ble_eq_true rfl, Nat.le_of_ble_eq_true rfl⟩ rfl rfl d_M_reachOf_63 ?_
  refine b_lstore X (lv' := [(0, .ref (xa σ 0)), (1, .int x1), (2, .int x2), (3, .int x3), (4, .long r63), (6, .int x6)]) d_M_reachOf_66 (by decide) [1, 2, 3, 4, 0, 5] rfl ?_
  refine b_iinc X (lv' := [(0, .ref (xa σ 0)), (1, .int x1), (2, .int x2), (3, .int x3), (4, .long r63), (6, .int (x6 + (-1)))]) d_M_reachOf_68 5 rfl (v := (x6 + (-1))) rfl (by decide) [1, 2, 3, 4, 5, 0] rfl ?_
  refine b_goto X (tgt := 24) d_M_reachOf_71 (by decide) ?_
  exact k
theorem sg_M_reachOf_24_fff24 {K : KX} {G : GG} {w0 : va_W} {Q : State → Prop} (X : Bd K G w0 "FirstTreesModel" c_M_reachOf 7 (some .int) rm_M_reachOf) (σ : St) (x1 : Int32) (x2 : Int32) (x3 : Int32) (x4 : Int64) (x6 : Int32) (n42 : Nat) (c26 : ¬ x6 < 0) (c32 : ¬ x4 = 0) (e42 : x6 = nI n42) (h42 : n42 < 20000) (c45 : ¬ (-100) < (xi σ 18 n42)) (k : Lb K G w0 Q 7 24 [(0, .ref (xa σ 0)), (1, .int x1), (2, .int x2), (3, .int x3), (4, .long x4), (6, .int (x6 + (-1)))] [] (WM G σ) 0 0) : Lb K G w0 Q 7 24 [(0, .ref (xa σ 0)), (1, .int x1), (2, .int x2), (3, .int x3), (4, .long x4), (6, .int x6)] [] (WM G σ) 0 0 := by
  refine b_iload X d_M_reachOf_24 5 rfl ?_
  refine b_if_lt X (tgt := 74) d_M_reachOf_26 (by decide) (fun h => absurd h c26) (fun _ => ?_)
  refine b_lload X d_M_reachOf_29 4 rfl ?_
  refine b_lconst X (v := 0) d_M_reachOf_31 rfl ?_
  refine b_l_eq X (tgt := 74) d_M_reachOf_32 d_M_reachOf_33 (by decide) (fun h => absurd h c32) (fun _ => ?_)
  refine b_aload_n X d_M_reachOf_36 0 rfl rfl ?_
  refine b_get X fl_M_64 0 rfl (v := .ref (xa σ 18)) rfl d_M_reachOf_37 ?_
  refine b_iload X d_M_reachOf_40 5 rfl ?_
  refine b_iald X 18 rfl (by decide) n42 e42 h42 d_M_reachOf_42 ?_
  refine b_bipush X (v := (-100)) d_M_reachOf_43 (by decide) ?_
  refine b_icmp_gt X (tgt := 53) d_M_reachOf_45 (by decide) (fun h => absurd h c45) (fun _ => ?_)
  refine b_lload X d_M_reachOf_48 4 rfl ?_
  refine b_goto X (tgt := 66) d_M_reachOf_50 (by decide) ?_
  refine b_lstore X (lv' := [(0, .ref (xa σ 0)), (1, .int x1), (2, .int x2), (3, .int x3), (4, .long x4), (6, .int x6)]) d_M_reachOf_66 (by decide) [1, 2, 3, 4, 0, 5] rfl ?_
  refine b_iinc X (lv' := [(0, .ref (xa σ 0)), (1, .int x1), (2, .int x2), (3, .int x3), (4, .long x4), (6, .int (x6 + (-1)))]) d_M_reachOf_68 5 rfl (v := (x6 + (-1))) rfl (by decide) [1, 2, 3, 4, 5, 0] rfl ?_
  refine b_goto X (tgt := 24) d_M_reachOf_71 (by decide) ?_
  exact k
theorem sg_M_reachOf_77_ttr {K : KX} {G : GG} {w0 : va_W} {post : PostT} (X : Bd K G w0 "FirstTreesModel" c_M_reachOf 7 (some .int) rm_M_reachOf) (σ : St) (x1 : Int32) (x2 : Int32) (x3 : Int32) (x4 : Int64) (x6 : Int32)  (c83 : (xi σ 0 3) < x6) (c136 : ¬ ((shrL x4 (xi σ 0 3)) &&& 1) = 1) (hp : post (some (.int ((xi σ 0 7) - x3))) (WM G σ)) : Lb K G w0 (Qe K G w0 post rm_M_reachOf) 7 77 [(0, .ref (xa σ 0)), (1, .int x1), (2, .int x2), (3, .int x3), (4, .long x4), (6, .int x6)] [] (WM G σ) 0 0 := by
  refine b_iload X d_M_reachOf_77 5 rfl ?_
  refine b_aload_n X d_M_reachOf_79 0 rfl rfl ?_
  refine b_get X fl_M_105 0 rfl (v := .int (xi σ 0 3)) rfl d_M_reachOf_80 ?_
  refine b_icmp_gt X (tgt := 126) d_M_reachOf_83 (by decide) (fun _ => ?_) (fun h => absurd c83 h)
  refine b_lload X d_M_reachOf_126 4 rfl ?_
  refine b_aload_n X d_M_reachOf_128 0 rfl rfl ?_
  refine b_get X fl_M_105 0 rfl (v := .int (xi σ 0 3)) rfl d_M_reachOf_129 ?_
  refine b_lshr X (v := (shrL x4 (xi σ 0 3))) d_M_reachOf_132 rfl ?_
  refine b_lconst X (v := 1) d_M_reachOf_133 rfl ?_
  refine b_land X d_M_reachOf_134 ?_
  refine b_lconst X (v := 1) d_M_reachOf_135 rfl ?_
  refine b_l_ne X (tgt := 144) d_M_reachOf_136 d_M_reachOf_137 (by decide) (fun _ => ?_) (fun h => absurd h c136)
  refine b_iconst X (v := 0) d_M_reachOf_144 (by decide) ?_
  refine b_istore X (lv' := [(0, .ref (xa σ 0)), (1, .int x1), (2, .int x2), (3, .int x3), (4, .long x4), (6, .int 0)]) d_M_reachOf_145 (by decide) [1, 2, 3, 4, 5, 0] rfl ?_
  refine b_iload X d_M_reachOf_147 5 rfl ?_
  refine b_if_eq X (tgt := 161) d_M_reachOf_149 (by decide) (fun _ => ?_) (fun h => absurd h (by decide))
  refine b_aload_n X d_M_reachOf_161 0 rfl rfl ?_
  refine b_get X fl_M_108 0 rfl (v := .int (xi σ 0 7)) rfl d_M_reachOf_162 ?_
  refine b_iload_n X d_M_reachOf_165 3 rfl rfl ?_
  refine b_isub X d_M_reachOf_166 ?_
  exact b_iret X d_M_reachOf_167 hp
theorem sg_M_reachOf_77_tfr {K : KX} {G : GG} {w0 : va_W} {post : PostT} (X : Bd K G w0 "FirstTreesModel" c_M_reachOf 7 (some .int) rm_M_reachOf) (σ : St) (x1 : Int32) (x2 : Int32) (x3 : Int32) (x4 : Int64) (x6 : Int32)  (c83 : (xi σ 0 3) < x6) (c136 : ((shrL x4 (xi σ 0 3)) &&& 1) = 1) (hp : post (some (.int (((xi σ 0 3) + 1) - x3))) (WM G σ)) : Lb K G w0 (Qe K G w0 post rm_M_reachOf) 7 77 [(0, .ref (xa σ 0)), (1, .int x1), (2, .int x2), (3, .int x3), (4, .long x4), (6, .int x6)] [] (WM G σ) 0 0 := by
  refine b_iload X d_M_reachOf_77 5 rfl ?_
  refine b_aload_n X d_M_reachOf_79 0 rfl rfl ?_
  refine b_get X fl_M_105 0 rfl (v := .int (xi σ 0 3)) rfl d_M_reachOf_80 ?_
  refine b_icmp_gt X (tgt := 126) d_M_reachOf_83 (by decide) (fun _ => ?_) (fun h => absurd c83 h)
  refine b_lload X d_M_reachOf_126 4 rfl ?_
  refine b_aload_n X d_M_reachOf_128 0 rfl rfl ?_
  refine b_get X fl_M_105 0 rfl (v := .int (xi σ 0 3)) rfl d_M_reachOf_129 ?_
  refine b_lshr X (v := (shrL x4 (xi σ 0 3))) d_M_reachOf_132 rfl ?_
  refine b_lconst X (v := 1) d_M_reachOf_133 rfl ?_
  refine b_land X d_M_reachOf_134 ?_
  refine b_lconst X (v := 1) d_M_reachOf_135 rfl ?_
  refine b_l_ne X (tgt := 144) d_M_reachOf_136 d_M_reachOf_137 (by decide) (fun h => absurd c136 h) (fun _ => ?_)
  refine b_iconst X (v := 1) d_M_reachOf_140 (by decide) ?_
  refine b_goto X (tgt := 145) d_M_reachOf_141 (by decide) ?_
  refine b_istore X (lv' := [(0, .ref (xa σ 0)), (1, .int x1), (2, .int x2), (3, .int x3), (4, .long x4), (6, .int 1)]) d_M_reachOf_145 (by decide) [1, 2, 3, 4, 5, 0] rfl ?_
  refine b_iload X d_M_reachOf_147 5 rfl ?_
  refine b_if_eq X (tgt := 161) d_M_reachOf_149 (by decide) (fun h => absurd h (by decide)) (fun _ => ?_)
  refine b_aload_n X d_M_reachOf_152 0 rfl rfl ?_
  refine b_get X fl_M_105 0 rfl (v := .int (xi σ 0 3)) rfl d_M_reachOf_153 ?_
  refine b_iconst X (v := 1) d_M_reachOf_156 (by decide) ?_
  refine b_iadd X d_M_reachOf_157 ?_
  refine b_goto X (tgt := 165) d_M_reachOf_158 (by decide) ?_
  refine b_iload_n X d_M_reachOf_165 3 rfl rfl ?_
  refine b_isub X d_M_reachOf_166 ?_
  exact b_iret X d_M_reachOf_167 hp
theorem sg_M_reachOf_77_ft77 {K : KX} {G : GG} {w0 : va_W} {Q : State → Prop} (X : Bd K G w0 "FirstTreesModel" c_M_reachOf 7 (some .int) rm_M_reachOf) (σ : St) (x1 : Int32) (x2 : Int32) (x3 : Int32) (x4 : Int64) (x6 : Int32)  (c83 : ¬ (xi σ 0 3) < x6) (c95 : ¬ ((shrL x4 x6) &&& 1) = 1) (k : Lb K G w0 Q 7 77 [(0, .ref (xa σ 0)), (1, .int x1), (2, .int x2), (3, .int x3), (4, .long x4), (6, .int (x6 + 1))] [] (WM G (wi σ 0 7 (xi σ 0 7))) 0 0) : Lb K G w0 Q 7 77 [(0, .ref (xa σ 0)), (1, .int x1), (2, .int x2), (3, .int x3), (4, .long x4), (6, .int x6)] [] (WM G σ) 0 0 := by
  refine b_iload X d_M_reachOf_77 5 rfl ?_
  refine b_aload_n X d_M_reachOf_79 0 rfl rfl ?_
  refine b_get X fl_M_105 0 rfl (v := .int (xi σ 0 3)) rfl d_M_reachOf_80 ?_
  refine b_icmp_gt X (tgt := 126) d_M_reachOf_83 (by decide) (fun h => absurd h c83) (fun _ => ?_)
  refine b_aload_n X d_M_reachOf_86 0 rfl rfl ?_
  refine b_lload X d_M_reachOf_87 4 rfl ?_
  refine b_iload X d_M_reachOf_89 5 rfl ?_
  refine b_lshr X (v := (shrL x4 x6)) d_M_reachOf_91 rfl ?_
  refine b_lconst X (v := 1) d_M_reachOf_92 rfl ?_
  refine b_land X d_M_reachOf_93 ?_
  refine b_lconst X (v := 1) d_M_reachOf_94 rfl ?_
  refine b_l_ne X (tgt := 113) d_M_reachOf_95 d_M_reachOf_96 (by decide) (fun _ => ?_) (fun h => absurd h c95)
  refine b_aload_n X d_M_reachOf_113 0 rfl rfl ?_
  refine b_get X fl_M_108 0 rfl (v := .int (xi σ 0 7)) rfl d_M_reachOf_114 ?_
  refine b_put X fl_M_108 pl_M_farthest 0 rfl rfl rfl (Nat.le_of_ble_eq_true rfl) (uWM_0_farthest G σ (xi σ 0 7)) d_M_reachOf_117 ?_
  refine b_iinc X (lv' := [(0, .ref (xa σ 0)), (1, .int x1), (2, .int x2), (3, .int x3), (4, .long x4), (6, .int (x6 + 1))]) d_M_reachOf_120 5 rfl (v := (x6 + 1)) rfl (by decide) [1, 2, 3, 4, 5, 0] rfl ?_
  refine b_goto X (tgt := 77) d_M_reachOf_123 (by decide) ?_
  exact k
theorem sg_M_reachOf_77_fft77 {K : KX} {G : GG} {w0 : va_W} {Q : State → Prop} (X : Bd K G w0 "FirstTreesModel" c_M_reachOf 7 (some .int) rm_M_reachOf) (σ : St) (x1 : Int32) (x2 : Int32) (x3 : Int32) (x4 : Int64) (x6 : Int32)  (c83 : ¬ (xi σ 0 3) < x6) (c95 : ((shrL x4 x6) &&& 1) = 1) (c105 : x6 ≤ (xi σ 0 7)) (k : Lb K G w0 Q 7 77 [(0, .ref (xa σ 0)), (1, .int x1), (2, .int x2), (3, .int x3), (4, .long x4), (6, .int (x6 + 1))] [] (WM G (wi σ 0 7 (xi σ 0 7))) 0 0) : Lb K G w0 Q 7 77 [(0, .ref (xa σ 0)), (1, .int x1), (2, .int x2), (3, .int x3), (4, .long x4), (6, .int x6)] [] (WM G σ) 0 0 := by
  refine b_iload X d_M_reachOf_77 5 rfl ?_
  refine b_aload_n X d_M_reachOf_79 0 rfl rfl ?_
  refine b_get X fl_M_105 0 rfl (v := .int (xi σ 0 3)) rfl d_M_reachOf_80 ?_
  refine b_icmp_gt X (tgt := 126) d_M_reachOf_83 (by decide) (fun h => absurd h c83) (fun _ => ?_)
  refine b_aload_n X d_M_reachOf_86 0 rfl rfl ?_
  refine b_lload X d_M_reachOf_87 4 rfl ?_
  refine b_iload X d_M_reachOf_89 5 rfl ?_
  refine b_lshr X (v := (shrL x4 x6)) d_M_reachOf_91 rfl ?_
  refine b_lconst X (v := 1) d_M_reachOf_92 rfl ?_
  refine b_land X d_M_reachOf_93 ?_
  refine b_lconst X (v := 1) d_M_reachOf_94 rfl ?_
  refine b_l_ne X (tgt := 113) d_M_reachOf_95 d_M_reachOf_96 (by decide) (fun h => absurd c95 h) (fun _ => ?_)
  refine b_iload X d_M_reachOf_99 5 rfl ?_
  refine b_aload_n X d_M_reachOf_101 0 rfl rfl ?_
  refine b_get X fl_M_108 0 rfl (v := .int (xi σ 0 7)) rfl d_M_reachOf_102 ?_
  refine b_icmp_le X (tgt := 113) d_M_reachOf_105 (by decide) (fun _ => ?_) (fun h => absurd c105 h)
  refine b_aload_n X d_M_reachOf_113 0 rfl rfl ?_
  refine b_get X fl_M_108 0 rfl (v := .int (xi σ 0 7)) rfl d_M_reachOf_114 ?_
  refine b_put X fl_M_108 pl_M_farthest 0 rfl rfl rfl (Nat.le_of_ble_eq_true rfl) (uWM_0_farthest G σ (xi σ 0 7)) d_M_reachOf_117 ?_
  refine b_iinc X (lv' := [(0, .ref (xa σ 0)), (1, .int x1), (2, .int x2), (3, .int x3), (4, .long x4), (6, .int (x6 + 1))]) d_M_reachOf_120 5 rfl (v := (x6 + 1)) rfl (by decide) [1, 2, 3, 4, 5, 0] rfl ?_
  refine b_goto X (tgt := 77) d_M_reachOf_123 (by decide) ?_
  exact k
theorem sg_M_reachOf_77_fff77 {K : KX} {G : GG} {w0 : va_W} {Q : State → Prop} (X : Bd K G w0 "FirstTreesModel" c_M_reachOf 7 (some .int) rm_M_reachOf) (σ : St) (x1 : Int32) (x2 : Int32) (x3 : Int32) (x4 : Int64) (x6 : Int32)  (c83 : ¬ (xi σ 0 3) < x6) (c95 : ((shrL x4 x6) &&& 1) = 1) (c105 : ¬ x6 ≤ (xi σ 0 7)) (k : Lb K G w0 Q 7 77 [(0, .ref (xa σ 0)), (1, .int x1), (2, .int x2), (3, .int x3), (4, .long x4), (6, .int (x6 + 1))] [] (WM G (wi σ 0 7 x6)) 0 0) : Lb K G w0 Q 7 77 [(0, .ref (xa σ 0)), (1, .int x1), (2, .int x2), (3, .int x3), (4, .long x4), (6, .int x6)] [] (WM G σ) 0 0 := by
  refine b_iload X d_M_reachOf_77 5 rfl ?_
  refine b_aload_n X d_M_reachOf_79 0 rfl rfl ?_
  refine b_get X fl_M_105 0 rfl (v := .int (xi σ 0 3)) rfl d_M_reachOf_80 ?_
  refine b_icmp_gt X (tgt := 126) d_M_reachOf_83 (by decide) (fun h => absurd h c83) (fun _ => ?_)
  refine b_aload_n X d_M_reachOf_86 0 rfl rfl ?_
  refine b_lload X d_M_reachOf_87 4 rfl ?_
  refine b_iload X d_M_reachOf_89 5 rfl ?_
  refine b_lshr X (v := (shrL x4 x6)) d_M_reachOf_91 rfl ?_
  refine b_lconst X (v := 1) d_M_reachOf_92 rfl ?_
  refine b_land X d_M_reachOf_93 ?_
  refine b_lconst X (v := 1) d_M_reachOf_94 rfl ?_
  refine b_l_ne X (tgt := 113) d_M_reachOf_95 d_M_reachOf_96 (by decide) (fun h => absurd c95 h) (fun _ => ?_)
  refine b_iload X d_M_reachOf_99 5 rfl ?_
  refine b_aload_n X d_M_reachOf_101 0 rfl rfl ?_
  refine b_get X fl_M_108 0 rfl (v := .int (xi σ 0 7)) rfl d_M_reachOf_102 ?_
  refine b_icmp_le X (tgt := 113) d_M_reachOf_105 (by decide) (fun h => absurd h c105) (fun _ => ?_)
  refine b_iload X d_M_reachOf_108 5 rfl ?_
  refine b_goto X (tgt := 117) d_M_reachOf_110 (by decide) ?_
  refine b_put X fl_M_108 pl_M_farthest 0 rfl rfl rfl (Nat.le_of_ble_eq_true rfl) (uWM_0_farthest G σ x6) d_M_reachOf_117 ?_
  refine b_iinc X (lv' := [(0, .ref (xa σ 0)), (1, .int x1), (2, .int x2), (3, .int x3), (4, .long x4), (6, .int (x6 + 1))]) d_M_reachOf_120 5 rfl (v := (x6 + 1)) rfl (by decide) [1, 2, 3, 4, 5, 0] rfl ?_
  refine b_goto X (tgt := 77) d_M_reachOf_123 (by decide) ?_
  exact k
theorem sg_M_makeNode_0_t53 {K : KX} {G : GG} {w0 : va_W} {Q : State → Prop} (X : Bd K G w0 "FirstTreesModel" c_M_makeNode 13 none rm_M_makeNode) (σ : St) (x1 : Int32) (x2 : Int32) (x3 : Int32)  (c20 : (xi σ 0 6) ≤ 0) (k : Lb K G w0 Q 13 53 [(0, .ref (xa σ 0)), (1, .int x1), (2, .int x2), (3, .int x3), (4, .int (xi σ 0 5)), (5, .long (shlL 1 (xi σ 0 3))), (7, .int 0)] [] (WM G (wi (wi σ 0 5 ((xi σ 0 5) + 1)) 0 7 x3)) 0 0) : Lb K G w0 Q 13 0 [(0, .ref (xa σ 0)), (1, .int x1), (2, .int x2), (3, .int x3)] [] (WM G σ) 0 0 := by
  refine b_aload_n X d_M_makeNode_0 0 rfl rfl ?_
  refine b_get X fl_M_135 0 rfl (v := .int (xi σ 0 5)) rfl d_M_makeNode_1 ?_
  refine b_istore X (lv' := [(0, .ref (xa σ 0)), (1, .int x1), (2, .int x2), (3, .int x3), (4, .int (xi σ 0 5))]) d_M_makeNode_4 (by decide) [1, 2, 3, 4, 0] rfl ?_
  refine b_aload_n X d_M_makeNode_6 0 rfl rfl ?_
  refine b_dup X d_M_makeNode_7 rfl ?_
  refine b_get X fl_M_135 0 rfl (v := .int (xi σ 0 5)) rfl d_M_makeNode_8 ?_
  refine b_iconst X (v := 1) d_M_makeNode_11 (by decide) ?_
  refine b_iadd X d_M_makeNode_12 ?_
  refine b_put X fl_M_135 pl_M_madeNodes 0 rfl rfl rfl (Nat.le_of_ble_eq_true rfl) (uWM_0_madeNodes G σ ((xi σ 0 5) + 1)) d_M_makeNode_13 ?_
  refine b_aload_n X d_M_makeNode_16 0 rfl rfl ?_
  refine b_get X fl_M_132 0 rfl (v := .int (xi σ 0 6)) rfl d_M_makeNode_17 ?_
  refine b_if_le X (tgt := 37) d_M_makeNode_20 (by decide) (fun _ => ?_) (fun h => absurd c20 h)
  refine b_lconst X (v := 1) d_M_makeNode_37 rfl ?_
  refine b_aload_n X d_M_makeNode_38 0 rfl rfl ?_
  refine b_get X fl_M_105 0 rfl (v := .int (xi σ 0 3)) rfl d_M_makeNode_39 ?_
  refine b_lshl X (v := (shlL 1 (xi σ 0 3))) d_M_makeNode_42 rfl ?_
  refine b_lstore X (lv' := [(0, .ref (xa σ 0)), (1, .int x1), (2, .int x2), (3, .int x3), (4, .int (xi σ 0 5)), (5, .long (shlL 1 (xi σ 0 3)))]) d_M_makeNode_43 (by decide) [1, 2, 3, 4, 5, 0] rfl ?_
  refine b_iconst X (v := 0) d_M_makeNode_45 (by decide) ?_
  refine b_istore X (lv' := [(0, .ref (xa σ 0)), (1, .int x1), (2, .int x2), (3, .int x3), (4, .int (xi σ 0 5)), (5, .long (shlL 1 (xi σ 0 3))), (7, .int 0)]) d_M_makeNode_46 (by decide) [1, 2, 3, 4, 5, 6, 0] rfl ?_
  refine b_aload_n X d_M_makeNode_48 0 rfl rfl ?_
  refine b_iload_n X d_M_makeNode_49 3 rfl rfl ?_
  refine b_put X fl_M_108 pl_M_farthest 0 rfl rfl rfl (Nat.le_of_ble_eq_true rfl) (uWM_0_farthest G (wi σ 0 5 ((xi σ 0 5) + 1)) x3) d_M_makeNode_50 ?_
  exact k
theorem sg_M_makeNode_0_f53 {K : KX} {G : GG} {w0 : va_W} {Q : State → Prop} (X : Bd K G w0 "FirstTreesModel" c_M_makeNode 13 none rm_M_makeNode) (σ : St) (x1 : Int32) (x2 : Int32) (x3 : Int32) (n33 : Nat) (c20 : ¬ (xi σ 0 6) ≤ 0) (e33 : ((xi σ 0 6) - 1) = nI n33) (h33 : n33 < 20000) (k : Lb K G w0 Q 13 53 [(0, .ref (xa σ 0)), (1, .int x1), (2, .int x2), (3, .int x3), (4, .int (xi σ 0 5)), (5, .long (xl σ 20 n33)), (7, .int 0)] [] (WM G (wi (wi σ 0 5 ((xi σ 0 5) + 1)) 0 7 x3)) 0 0) : Lb K G w0 Q 13 0 [(0, .ref (xa σ 0)), (1, .int x1), (2, .int x2), (3, .int x3)] [] (WM G σ) 0 0 := by
  refine b_aload_n X d_M_makeNode_0 0 rfl rfl ?_
  refine b_get X fl_M_135 0 rfl (v := .int (xi σ 0 5)) rfl d_M_makeNode_1 ?_
  refine b_istore X (lv' := [(0, .ref (xa σ 0)), (1, .int x1), (2, .int x2), (3, .int x3), (4, .int (xi σ 0 5))]) d_M_makeNode_4 (by decide) [1, 2, 3, 4, 0] rfl ?_
  refine b_aload_n X d_M_makeNode_6 0 rfl rfl ?_
  refine b_dup X d_M_makeNode_7 rfl ?_
  refine b_get X fl_M_135 0 rfl (v := .int (xi σ 0 5)) rfl d_M_makeNode_8 ?_
  refine b_iconst X (v := 1) d_M_makeNode_11 (by decide) ?_
  refine b_iadd X d_M_makeNode_12 ?_
  refine b_put X fl_M_135 pl_M_madeNodes 0 rfl rfl rfl (Nat.le_of_ble_eq_true rfl) (uWM_0_madeNodes G σ ((xi σ 0 5) + 1)) d_M_makeNode_13 ?_
  refine b_aload_n X d_M_makeNode_16 0 rfl rfl ?_
  refine b_get X fl_M_132 0 rfl (v := .int (xi σ 0 6)) rfl d_M_makeNode_17 ?_
  refine b_if_le X (tgt := 37) d_M_makeNode_20 (by decide) (fun h => absurd h c20) (fun _ => ?_)
  refine b_aload_n X d_M_makeNode_23 0 rfl rfl ?_
  refine b_get X fl_M_70 0 rfl (v := .ref (xa σ 20)) rfl d_M_makeNode_24 ?_
  refine b_aload_n X d_M_makeNode_27 0 rfl rfl ?_
  refine b_get X fl_M_132 0 rfl (v := .int (xi σ 0 6)) rfl d_M_makeNode_28 ?_
  refine b_iconst X (v := 1) d_M_makeNode_31 (by decide) ?_
  refine b_isub X d_M_makeNode_32 ?_
  refine b_lald X 20 rfl (by decide) n33 e33 h33 d_M_makeNode_33 ?_
  refine b_goto X (tgt := 43) d_M_makeNode_34 (by decide) ?_
  refine b_lstore X (lv' := [(0, .ref (xa σ 0)), (1, .int x1), (2, .int x2), (3, .int x3), (4, .int (xi σ 0 5)), (5, .long (xl σ 20 n33))]) d_M_makeNode_43 (by decide) [1, 2, 3, 4, 5, 0] rfl ?_
  refine b_iconst X (v := 0) d_M_makeNode_45 (by decide) ?_
  refine b_istore X (lv' := [(0, .ref (xa σ 0)), (1, .int x1), (2, .int x2), (3, .int x3), (4, .int (xi σ 0 5)), (5, .long (xl σ 20 n33)), (7, .int 0)]) d_M_makeNode_46 (by decide) [1, 2, 3, 4, 5, 6, 0] rfl ?_
  refine b_aload_n X d_M_makeNode_48 0 rfl rfl ?_
  refine b_iload_n X d_M_makeNode_49 3 rfl rfl ?_
  refine b_put X fl_M_108 pl_M_farthest 0 rfl rfl rfl (Nat.le_of_ble_eq_true rfl) (uWM_0_farthest G (wi σ 0 5 ((xi σ 0 5) + 1)) x3) d_M_makeNode_50 ?_
  exact k
theorem sg_M_makeNode_53_t83 {K : KX} {G : GG} {w0 : va_W} {Q : State → Prop} (X : Bd K G w0 "FirstTreesModel" c_M_makeNode 13 none rm_M_makeNode) (σ : St) (x1 : Int32) (x2 : Int32) (x3 : Int32) (x4 : Int32) (x5 : Int64) (x7 : Int32) (r60 : Int64) (q60 : Sq) (t60 : Ct y_M_alongAlternative c_M_alongAlternative 8 (some .long) rm_M_alongAlternative G [.ref (xa σ 0), .long (shlL 1 x3), .int x1, .int x7] (WM G σ) (eqp (some (.long r60)) (WM G (xa σ, q60)))) (c67 : ¬ (r60 &&& x5) = 0) (k : Lb K G w0 Q 13 83 [(0, .ref (xa σ 0)), (1, .int x1), (2, .int x2), (3, .int x3), (4, .int x4), (5, .long x5), (7, .int x7), (8, .int 0), (9, .int 0)] [] (WM G (xa σ, q60)) 0 0) : Lb K G w0 Q 13 53 [(0, .ref (xa σ 0)), (1, .int x1), (2, .int x2), (3, .int x3), (4, .int x4), (5, .long x5), (7, .int x7)] [] (WM G σ) 0 0 := by
  refine b_aload_n X d_M_makeNode_53 0 rfl rfl ?_
  refine b_lconst X (v := 1) d_M_makeNode_54 rfl ?_
  refine b_iload_n X d_M_makeNode_55 3 rfl rfl ?_
  refine b_lshl X (v := (shlL 1 x3)) d_M_makeNode_56 rfl ?_
  refine b_iload_n X d_M_makeNode_57 1 rfl rfl ?_
  refine b_iload X d_M_makeNode_58 6 rfl ?_
  refine b_dV X cf_M_alongAlternative ci_M_alongAlternative ml_M_118 t60 0 rfl rfl (As := [.long (shlL 1 x3), .int x1, .int x7]) (rest := []) rfl (Nat.le_of_ble_eq_true rfl) ⟨Nat.le_of_ble_eq_true rfl, Nat.le_of_ble_eq_true rfl⟩ ⟨Nat.le_of_ble_eq_true rfl, Nat.le_of_ble_eq_true rfl⟩ rfl rfl d_M_makeNode_60 ?_
  refine b_lload X d_M_makeNode_63 5 rfl ?_
  refine b_land X d_M_makeNode_65 ?_
  refine b_lconst X (v := 0) d_M_makeNode_66 rfl ?_
  refine b_l_ne X (tgt := 77) d_M_makeNode_67 d_M_makeNode_68 (by decide) (fun _ => ?_) (fun h => absurd h c67)
  refine b_iconst X (v := 0) d_M_makeNode_77 (by decide) ?_
  refine b_istore X (lv' := [(0, .ref (xa σ 0)), (1, .int x1), (2, .int x2), (3, .int x3), (4, .int x4), (5, .long x5), (7, .int x7), (8, .int 0)]) d_M_makeNode_78 (by decide) [1, 2, 3, 4, 5, 6, 7, 0] rfl ?_
  refine b_iconst X (v := 0) d_M_makeNode_80 (by decide) ?_
  refine b_istore X (lv' := [(0, .ref (xa σ 0)), (1, .int x1), (2, .int x2), (3, .int x3), (4, .int x4), (5, .long x5), (7, .int x7), (8, .int 0), (9, .int 0)]) d_M_makeNode_81 (by decide) [1, 2, 3, 4, 5, 6, 7, 8, 0] rfl ?_
  exact k
theorem sg_M_makeNode_53_f53 {K : KX} {G : GG} {w0 : va_W} {Q : State → Prop} (X : Bd K G w0 "FirstTreesModel" c_M_makeNode 13 none rm_M_makeNode) (σ : St) (x1 : Int32) (x2 : Int32) (x3 : Int32) (x4 : Int32) (x5 : Int64) (x7 : Int32) (r60 : Int64) (q60 : Sq) (t60 : Ct y_M_alongAlternative c_M_alongAlternative 8 (some .long) rm_M_alongAlternative G [.ref (xa σ 0), .long (shlL 1 x3), .int x1, .int x7] (WM G σ) (eqp (some (.long r60)) (WM G (xa σ, q60)))) (c67 : (r60 &&& x5) = 0) (k : Lb K G w0 Q 13 53 [(0, .ref (xa σ 0)), (1, .int x1), (2, .int x2), (3, .int x3), (4, .int x4), (5, .long x5), (7, .int (x7 + 1))] [] (WM G (xa σ, q60)) 0 0) : Lb K G w0 Q 13 53 [(0, .ref (xa σ 0)), (1, .int x1), (2, .int x2), (3, .int x3), (4, .int x4), (5, .long x5), (7, .int x7)] [] (WM G σ) 0 0 := by
  refine b_aload_n X d_M_makeNode_53 0 rfl rfl ?_
  refine b_lconst X (v := 1) d_M_makeNode_54 rfl ?_
  refine b_iload_n X d_M_makeNode_55 3 rfl rfl ?_
  refine b_lshl X (v := (shlL 1 x3)) d_M_makeNode_56 rfl ?_
  refine b_iload_n X d_M_makeNode_57 1 rfl rfl ?_
  refine b_iload X d_M_makeNode_58 6 rfl ?_
  refine b_dV X cf_M_alongAlternative ci_M_alongAlternative ml_M_118 t60 0 rfl rfl (As := [.long (shlL 1 x3), .int x1, .int x7]) (rest := []) rfl (Nat.le_of_ble_eq_true rfl) ⟨Nat.le_of_ble_eq_true rfl, Nat.le_of_ble_eq_true rfl⟩ ⟨Nat.le_of_ble_eq_true rfl, Nat.le_of_ble_eq_true rfl⟩ rfl rfl d_M_makeNode_60 ?_
  refine b_lload X d_M_makeNode_63 5 rfl ?_
  refine b_land X d_M_makeNode_65 ?_
  refine b_lconst X (v := 0) d_M_makeNode_66 rfl ?_
  refine b_l_ne X (tgt := 77) d_M_makeNode_67 d_M_makeNode_68 (by decide) (fun h => absurd c67 h) (fun _ => ?_)
  refine b_iinc X (lv' := [(0, .ref (xa σ 0)), (1, .int x1), (2, .int x2), (3, .int x3), (4, .int x4), (5, .long x5), (7, .int (x7 + 1))]) d_M_makeNode_71 6 rfl (v := (x7 + 1)) rfl (by decide) [1, 2, 3, 4, 5, 6, 0] rfl ?_
  refine b_goto X (tgt := 53) d_M_makeNode_74 (by decide) ?_
  exact k
theorem sg_M_makeNode_83_ttt282 {K : KX} {G : GG} {w0 : va_W} {Q : State → Prop} (X : Bd K G w0 "FirstTreesModel" c_M_makeNode 13 none rm_M_makeNode) (σ : St) (x1 : Int32) (x2 : Int32) (x3 : Int32) (x4 : Int32) (x5 : Int64) (x7 : Int32) (x8 : Int32) (x9 : Int32) (n90 : Nat) (n163 : Nat) (n174 : Nat) (n184 : Nat) (n194 : Nat) (n204 : Nat) (n214 : Nat) (n238 : Nat) (q268 : Sq) (n275 : Nat) (e90 : x1 = nI n90) (h90 : n90 < 16) (c91 : (xi σ 1 n90) ≤ x9) (e163 : (7 * x4) = nI n163) (h163 : n163 < 14007) (e174 : ((7 * x4) + 1) = nI n174) (h174 : n174 < 14007) (e184 : ((7 * x4) + 2) = nI n184) (h184 : n184 < 14007) (e194 : ((7 * x4) + 3) = nI n194) (h194 : n194 < 14007) (e204 : ((7 * x4) + 4) = nI n204) (h204 : n204 < 14007) (e214 : ((7 * x4) + 5) = nI n214) (h214 : n214 < 14007) (c228 : x8 ≤ (((xi σ 0 3) - x3) + 1)) (e238 : ((7 * x4) + 6) = nI n238) (h238 : n238 < 14007) (c240 : x2 < 0) (t268 : Ct y_M_push c_M_push 5 none rm_M_push G [.ref (xa σ 0), .int ((-100) - x4), .int x4, .long x5] (WM G (wi (wi (wi (wi (wi (wi (wi σ 17 n163 x1) 17 n174 x7) 17 n184 x3) 17 n194 (-1)) 17 n204 x2) 17 n214 0) 17 n238 x8)) (eqp (none) (WM G (xa σ, q268)))) (e275 : ((8 * x1) + x7) = nI n275) (h275 : n275 < 128) (k : Lb K G w0 Q 13 282 [(0, .ref (xa σ 0)), (1, .int x1), (2, .int x2), (3, .int x3), (4, .int x4), (5, .long x5), (7, .int x7), (8, .int x8), (9, .int (((xi σ 0 3) - x3) + 1)), (10, .int (7 * x4)), (11, .int ((xi (xa σ, q268) 2 n275) - 1))] [] (WM G (xa σ, q268)) 0 0) : Lb K G w0 Q 13 83 [(0, .ref (xa σ 0)), (1, .int x1), (2, .int x2), (3, .int x3), (4, .int x4), (5, .long x5), (7, .int x7), (8, .int x8), (9, .int x9)] [] (WM G σ) 0 0 := by
  refine b_iload X d_M_makeNode_83 8 rfl ?_
  refine b_aload_n X d_M_makeNode_85 0 rfl rfl ?_
  refine b_get X fl_M_7 0 rfl (v := .ref (xa σ 1)) rfl d_M_makeNode_86 ?_
  refine b_iload_n X d_M_makeNode_89 1 rfl rfl ?_
  refine b_iald X 1 rfl (by decide) n90 e90 h90 d_M_makeNode_90 ?_
  refine b_icmp_ge X (tgt := 139) d_M_makeNode_91 (by decide) (fun _ => ?_) (fun h => absurd c91 h)
  refine b_aload_n X d_M_makeNode_139 0 rfl rfl ?_
  refine b_get X fl_M_105 0 rfl (v := .int (xi σ 0 3)) rfl d_M_makeNode_140 ?_
  refine b_iload_n X d_M_makeNode_143 3 rfl rfl ?_
  refine b_isub X d_M_makeNode_144 ?_
  refine b_iconst X (v := 1) d_M_makeNode_145 (by decide) ?_
  refine b_iadd X d_M_makeNode_146 ?_
  refine b_istore X (lv' := [(0, .ref (xa σ 0)), (1, .int x1), (2, .int x2), (3, .int x3), (4, .int x4), (5, .long x5), (7, .int x7), (8, .int x8), (9, .int (((xi σ 0 3) - x3) + 1))]) d_M_makeNode_147 (by decide) [1, 2, 3, 4, 5, 6, 7, 8, 0] rfl ?_
  refine b_bipush X (v := 7) d_M_makeNode_149 (by decide) ?_
  refine b_iload X d_M_makeNode_151 4 rfl ?_
  refine b_imul X d_M_makeNode_153 ?_
  refine b_istore X (lv' := [(0, .ref (xa σ 0)), (1, .int x1), (2, .int x2), (3, .int x3), (4, .int x4), (5, .long x5), (7, .int x7), (8, .int x8), (9, .int (((xi σ 0 3) - x3) + 1)), (10, .int (7 * x4))]) d_M_makeNode_154 (by decide) [1, 2, 3, 4, 5, 6, 7, 8, 9, 0] rfl ?_
  refine b_aload_n X d_M_makeNode_156 0 rfl rfl ?_
  refine b_get X fl_M_61 0 rfl (v := .ref (xa σ 17)) rfl d_M_makeNode_157 ?_
  refine b_iload X d_M_makeNode_160 9 rfl ?_
  refine b_iload_n X d_M_makeNode_162 1 rfl rfl ?_
  refine b_iast X 17 rfl (by decide) n163 e163 h163 (uWM_17 G σ n163 x1) d_M_makeNode_163 ?_
  refine b_aload_n X d_M_makeNode_164 0 rfl rfl ?_
  refine b_get X fl_M_61 0 rfl (v := .ref (xa σ 17)) rfl d_M_makeNode_165 ?_
  refine b_iload X d_M_makeNode_168 9 rfl ?_
  refine b_iconst X (v := 1) d_M_makeNode_170 (by decide) ?_
  refine b_iadd X d_M_makeNode_171 ?_
  refine b_iload X d_M_makeNode_172 6 rfl ?_
  refine b_iast X 17 rfl (by decide) n174 e174 h174 (uWM_17 G (wi σ 17 n163 x1) n174 x7) d_M_makeNode_174 ?_
  refine b_aload_n X d_M_makeNode_175 0 rfl rfl ?_
  refine b_get X fl_M_61 0 rfl (v := .ref (xa σ 17)) rfl d_M_makeNode_176 ?_
  refine b_iload X d_M_makeNode_179 9 rfl ?_
  refine b_iconst X (v := 2) d_M_makeNode_181 (by decide) ?_
  refine b_iadd X d_M_makeNode_182 ?_
  refine b_iload_n X d_M_makeNode_183 3 rfl rfl ?_
  refine b_iast X 17 rfl (by decide) n184 e184 h184 (uWM_17 G (wi (wi σ 17 n163 x1) 17 n174 x7) n184 x3) d_M_makeNode_184 ?_
  refine b_aload_n X d_M_makeNode_185 0 rfl rfl ?_
  refine b_get X fl_M_61 0 rfl (v := .ref (xa σ 17)) rfl d_M_makeNode_186 ?_
  refine b_iload X d_M_makeNode_189 9 rfl ?_
  refine b_iconst X (v := 3) d_M_makeNode_191 (by decide) ?_
  refine b_iadd X d_M_makeNode_192 ?_
  refine b_iconst X (v := (-1)) d_M_makeNode_193 (by decide) ?_
  refine b_iast X 17 rfl (by decide) n194 e194 h194 (uWM_17 G (wi (wi (wi σ 17 n163 x1) 17 n174 x7) 17 n184 x3) n194 (-1)) d_M_makeNode_194 ?_
  refine b_aload_n X d_M_makeNode_195 0 rfl rfl ?_
  refine b_get X fl_M_61 0 rfl (v := .ref (xa σ 17)) rfl d_M_makeNode_196 ?_
  refine b_iload X d_M_makeNode_199 9 rfl ?_
  refine b_iconst X (v := 4) d_M_makeNode_201 (by decide) ?_
  refine b_iadd X d_M_makeNode_202 ?_
  refine b_iload_n X d_M_makeNode_203 2 rfl rfl ?_
  refine b_iast X 17 rfl (by decide) n204 e204 h204 (uWM_17 G (wi (wi (wi (wi σ 17 n163 x1) 17 n174 x7) 17 n184 x3) 17 n194 (-1)) n204 x2) d_M_makeNode_204 ?_
  refine b_aload_n X d_M_makeNode_205 0 rfl rfl ?_
  refine b_get X fl_M_61 0 rfl (v := .ref (xa σ 17)) rfl d_M_makeNode_206 ?_
  refine b_iload X d_M_makeNode_209 9 rfl ?_
  refine b_iconst X (v := 5) d_M_makeNode_211 (by decide) ?_
  refine b_iadd X d_M_makeNode_212 ?_
  refine b_iconst X (v := 0) d_M_makeNode_213 (by decide) ?_
  refine b_iast X 17 rfl (by decide) n214 e214 h214 (uWM_17 G (wi (wi (wi (wi (wi σ 17 n163 x1) 17 n174 x7) 17 n184 x3) 17 n194 (-1)) 17 n204 x2) n214 0) d_M_makeNode_214 ?_
  refine b_aload_n X d_M_makeNode_215 0 rfl rfl ?_
  refine b_get X fl_M_61 0 rfl (v := .ref (xa σ 17)) rfl d_M_makeNode_216 ?_
  refine b_iload X d_M_makeNode_219 9 rfl ?_
  refine b_bipush X (v := 6) d_M_makeNode_221 (by decide) ?_
  refine b_iadd X d_M_makeNode_223 ?_
  refine b_iload X d_M_makeNode_224 7 rfl ?_
  refine b_iload X d_M_makeNode_226 8 rfl ?_
  refine b_icmp_le X (tgt := 236) d_M_makeNode_228 (by decide) (fun _ => ?_) (fun h => absurd c228 h)
  refine b_iload X d_M_makeNode_236 7 rfl ?_
  refine b_iast X 17 rfl (by decide) n238 e238 h238 (uWM_17 G (wi (wi (wi (wi (wi (wi σ 17 n163 x1) 17 n174 x7) 17 n184 x3) 17 n194 (-1)) 17 n204 x2) 17 n214 0) n238 x8) d_M_makeNode_238 ?_
  refine b_iload_n X d_M_makeNode_239 2 rfl rfl ?_
  refine b_if_lt X (tgt := 258) d_M_makeNode_240 (by decide) (fun _ => ?_) (fun h => absurd c240 h)
  refine b_aload_n X d_M_makeNode_258 0 rfl rfl ?_
  refine b_bipush X (v := (-100)) d_M_makeNode_259 (by decide) ?_
  refine b_iload X d_M_makeNode_261 4 rfl ?_
  refine b_isub X d_M_makeNode_263 ?_
  refine b_iload X d_M_makeNode_264 4 rfl ?_
  refine b_lload X d_M_makeNode_266 5 rfl ?_
  refine b_dV X cf_M_push ci_M_push ml_M_141 t268 0 rfl rfl (As := [.int ((-100) - x4), .int x4, .long x5]) (rest := []) rfl (Nat.le_of_ble_eq_true rfl) ⟨Nat.le_of_ble_eq_true rfl, Nat.le_of_ble_eq_true rfl⟩ ⟨Nat.le_of_ble_eq_true rfl, Nat.le_of_ble_eq_true rfl⟩ rfl rfl d_M_makeNode_268 ?_
  refine b_aload_n X d_M_makeNode_271 0 rfl rfl ?_
  refine b_iload_n X d_M_makeNode_272 1 rfl rfl ?_
  refine b_iload X d_M_makeNode_273 6 rfl ?_
  refine b_dV X cf_M_sizeOf ci_M_sizeOf ml_M_77 (ct_M_sizeOf_ G (xa σ, q268) x1 x7 n275 e275 h275) 0 rfl rfl (As := [.int x1, .int x7]) (rest := []) rfl (Nat.le_of_ble_eq_true rfl) ⟨Nat.le_of_ble_eq_true rfl, Nat.le_of_ble_eq_true rfl⟩ ⟨Nat.le_of_ble_eq_true rfl, Nat.le_of_ble_eq_true rfl⟩ rfl rfl d_M_makeNode_275 ?_
  refine b_iconst X (v := 1) d_M_makeNode_278 (by decide) ?_
  refine b_isub X d_M_makeNode_279 ?_
  refine b_istore X (lv' := [(0, .ref (xa σ 0)), (1, .int x1), (2, .int x2), (3, .int x3), (4, .int x4), (5, .long x5), (7, .int x7), (8, .int x8), (9, .int (((xi σ 0 3) - x3) + 1)), (10, .int (7 * x4)), (11, .int ((xi (xa σ, q268) 2 n275) - 1))]) d_M_makeNode_280 (by decide) [1, 2, 3, 4, 5, 6, 7, 8, 9, 10, 0] rfl ?_
  exact k
theorem sg_M_makeNode_83_ttf282 {K : KX} {G : GG} {w0 : va_W} {Q : State → Prop} (X : Bd K G w0 "FirstTreesModel" c_M_makeNode 13 none rm_M_makeNode) (σ : St) (x1 : Int32) (x2 : Int32) (x3 : Int32) (x4 : Int32) (x5 : Int64) (x7 : Int32) (x8 : Int32) (x9 : Int32) (n90 : Nat) (n163 : Nat) (n174 : Nat) (n184 : Nat) (n194 : Nat) (n204 : Nat) (n214 : Nat) (n238 : Nat) (n254 : Nat) (q268 : Sq) (n275 : Nat) (e90 : x1 = nI n90) (h90 : n90 < 16) (c91 : (xi σ 1 n90) ≤ x9) (e163 : (7 * x4) = nI n163) (h163 : n163 < 14007) (e174 : ((7 * x4) + 1) = nI n174) (h174 : n174 < 14007) (e184 : ((7 * x4) + 2) = nI n184) (h184 : n184 < 14007) (e194 : ((7 * x4) + 3) = nI n194) (h194 : n194 < 14007) (e204 : ((7 * x4) + 4) = nI n204) (h204 : n204 < 14007) (e214 : ((7 * x4) + 5) = nI n214) (h214 : n214 < 14007) (c228 : x8 ≤ (((xi σ 0 3) - x3) + 1)) (e238 : ((7 * x4) + 6) = nI n238) (h238 : n238 < 14007) (c240 : ¬ x2 < 0) (e254 : ((7 * x2) + 5) = nI n254) (h254 : n254 < 14007) (t268 : Ct y_M_push c_M_push 5 none rm_M_push G [.ref (xa σ 0), .int ((-100) - x4), .int x4, .long x5] (WM G (wi (wi (wi (wi (wi (wi (wi (wi σ 17 n163 x1) 17 n174 x7) 17 n184 x3) 17 n194 (-1)) 17 n204 x2) 17 n214 0) 17 n238 x8) 17 n254 ((xi (wi (wi (wi (wi (wi (wi (wi σ 17 n163 x1) 17 n174 x7) 17 n184 x3) 17 n194 (-1)) 17 n204 x2) 17 n214 0) 17 n238 x8) 17 n254) + 1))) (eqp (none) (WM G (xa σ, q268)))) (e275 : ((8 * x1) + x7) = nI n275) (h275 : n275 < 128) (k : Lb K G w0 Q 13 282 [(0, .ref (xa σ 0)), (1, .int x1), (2, .int x2), (3, .int x3), (4, .int x4), (5, .long x5), (7, .int x7), (8, .int x8), (9, .int (((xi σ 0 3) - x3) + 1)), (10, .int (7 * x4)), (11, .int ((xi (xa σ, q268) 2 n275) - 1))] [] (WM G (xa σ, q268)) 0 0) : Lb K G w0 Q 13 83 [(0, .ref (xa σ 0)), (1, .int x1), (2, .int x2), (3, .int x3), (4, .int x4), (5, .long x5), (7, .int x7), (8, .int x8), (9, .int x9)] [] (WM G σ) 0 0 := by
  refine b_iload X d_M_makeNode_83 8 rfl ?_
  refine b_aload_n X d_M_makeNode_85 0 rfl rfl ?_
  refine b_get X fl_M_7 0 rfl (v := .ref (xa σ 1)) rfl d_M_makeNode_86 ?_
  refine b_iload_n X d_M_makeNode_89 1 rfl rfl ?_
  refine b_iald X 1 rfl (by decide) n90 e90 h90 d_M_makeNode_90 ?_
  refine b_icmp_ge X (tgt := 139) d_M_makeNode_91 (by decide) (fun _ => ?_) (fun h => absurd c91 h)
  refine b_aload_n X d_M_makeNode_139 0 rfl rfl ?_
  refine b_get X fl_M_105 0 rfl (v := .int (xi σ 0 3)) rfl d_M_makeNode_140 ?_
  refine b_iload_n X d_M_makeNode_143 3 rfl rfl ?_
  refine b_isub X d_M_makeNode_144 ?_
  refine b_iconst X (v := 1) d_M_makeNode_145 (by decide) ?_
  refine b_iadd X d_M_makeNode_146 ?_
  refine b_istore X (lv' := [(0, .ref (xa σ 0)), (1, .int x1), (2, .int x2), (3, .int x3), (4, .int x4), (5, .long x5), (7, .int x7), (8, .int x8), (9, .int (((xi σ 0 3) - x3) + 1))]) d_M_makeNode_147 (by decide) [1, 2, 3, 4, 5, 6, 7, 8, 0] rfl ?_
  refine b_bipush X (v := 7) d_M_makeNode_149 (by decide) ?_
  refine b_iload X d_M_makeNode_151 4 rfl ?_
  refine b_imul X d_M_makeNode_153 ?_
  refine b_istore X (lv' := [(0, .ref (xa σ 0)), (1, .int x1), (2, .int x2), (3, .int x3), (4, .int x4), (5, .long x5), (7, .int x7), (8, .int x8), (9, .int (((xi σ 0 3) - x3) + 1)), (10, .int (7 * x4))]) d_M_makeNode_154 (by decide) [1, 2, 3, 4, 5, 6, 7, 8, 9, 0] rfl ?_
  refine b_aload_n X d_M_makeNode_156 0 rfl rfl ?_
  refine b_get X fl_M_61 0 rfl (v := .ref (xa σ 17)) rfl d_M_makeNode_157 ?_
  refine b_iload X d_M_makeNode_160 9 rfl ?_
  refine b_iload_n X d_M_makeNode_162 1 rfl rfl ?_
  refine b_iast X 17 rfl (by decide) n163 e163 h163 (uWM_17 G σ n163 x1) d_M_makeNode_163 ?_
  refine b_aload_n X d_M_makeNode_164 0 rfl rfl ?_
  refine b_get X fl_M_61 0 rfl (v := .ref (xa σ 17)) rfl d_M_makeNode_165 ?_
  refine b_iload X d_M_makeNode_168 9 rfl ?_
  refine b_iconst X (v := 1) d_M_makeNode_170 (by decide) ?_
  refine b_iadd X d_M_makeNode_171 ?_
  refine b_iload X d_M_makeNode_172 6 rfl ?_
  refine b_iast X 17 rfl (by decide) n174 e174 h174 (uWM_17 G (wi σ 17 n163 x1) n174 x7) d_M_makeNode_174 ?_
  refine b_aload_n X d_M_makeNode_175 0 rfl rfl ?_
  refine b_get X fl_M_61 0 rfl (v := .ref (xa σ 17)) rfl d_M_makeNode_176 ?_
  refine b_iload X d_M_makeNode_179 9 rfl ?_
  refine b_iconst X (v := 2) d_M_makeNode_181 (by decide) ?_
  refine b_iadd X d_M_makeNode_182 ?_
  refine b_iload_n X d_M_makeNode_183 3 rfl rfl ?_
  refine b_iast X 17 rfl (by decide) n184 e184 h184 (uWM_17 G (wi (wi σ 17 n163 x1) 17 n174 x7) n184 x3) d_M_makeNode_184 ?_
  refine b_aload_n X d_M_makeNode_185 0 rfl rfl ?_
  refine b_get X fl_M_61 0 rfl (v := .ref (xa σ 17)) rfl d_M_makeNode_186 ?_
  refine b_iload X d_M_makeNode_189 9 rfl ?_
  refine b_iconst X (v := 3) d_M_makeNode_191 (by decide) ?_
  refine b_iadd X d_M_makeNode_192 ?_
  refine b_iconst X (v := (-1)) d_M_makeNode_193 (by decide) ?_
  refine b_iast X 17 rfl (by decide) n194 e194 h194 (uWM_17 G (wi (wi (wi σ 17 n163 x1) 17 n174 x7) 17 n184 x3) n194 (-1)) d_M_makeNode_194 ?_
  refine b_aload_n X d_M_makeNode_195 0 rfl rfl ?_
  refine b_get X fl_M_61 0 rfl (v := .ref (xa σ 17)) rfl d_M_makeNode_196 ?_
  refine b_iload X d_M_makeNode_199 9 rfl ?_
  refine b_iconst X (v := 4) d_M_makeNode_201 (by decide) ?_
  refine b_iadd X d_M_makeNode_202 ?_
  refine b_iload_n X d_M_makeNode_203 2 rfl rfl ?_
  refine b_iast X 17 rfl (by decide) n204 e204 h204 (uWM_17 G (wi (wi (wi (wi σ 17 n163 x1) 17 n174 x7) 17 n184 x3) 17 n194 (-1)) n204 x2) d_M_makeNode_204 ?_
  refine b_aload_n X d_M_makeNode_205 0 rfl rfl ?_
  refine b_get X fl_M_61 0 rfl (v := .ref (xa σ 17)) rfl d_M_makeNode_206 ?_
  refine b_iload X d_M_makeNode_209 9 rfl ?_
  refine b_iconst X (v := 5) d_M_makeNode_211 (by decide) ?_
  refine b_iadd X d_M_makeNode_212 ?_
  refine b_iconst X (v := 0) d_M_makeNode_213 (by decide) ?_
  refine b_iast X 17 rfl (by decide) n214 e214 h214 (uWM_17 G (wi (wi (wi (wi (wi σ 17 n163 x1) 17 n174 x7) 17 n184 x3) 17 n194 (-1)) 17 n204 x2) n214 0) d_M_makeNode_214 ?_
  refine b_aload_n X d_M_makeNode_215 0 rfl rfl ?_
  refine b_get X fl_M_61 0 rfl (v := .ref (xa σ 17)) rfl d_M_makeNode_216 ?_
  refine b_iload X d_M_makeNode_219 9 rfl ?_
  refine b_bipush X (v := 6) d_M_makeNode_221 (by decide) ?_
  refine b_iadd X d_M_makeNode_223 ?_
  refine b_iload X d_M_makeNode_224 7 rfl ?_
  refine b_iload X d_M_makeNode_226 8 rfl ?_
  refine b_icmp_le X (tgt := 236) d_M_makeNode_228 (by decide) (fun _ => ?_) (fun h => absurd c228 h)
  refine b_iload X d_M_makeNode_236 7 rfl ?_
  refine b_iast X 17 rfl (by decide) n238 e238 h238 (uWM_17 G (wi (wi (wi (wi (wi (wi σ 17 n163 x1) 17 n174 x7) 17 n184 x3) 17 n194 (-1)) 17 n204 x2) 17 n214 0) n238 x8) d_M_makeNode_238 ?_
  refine b_iload_n X d_M_makeNode_239 2 rfl rfl ?_
  refine b_if_lt X (tgt := 258) d_M_makeNode_240 (by decide) (fun h => absurd h c240) (fun _ => ?_)
  refine b_aload_n X d_M_makeNode_243 0 rfl rfl ?_
  refine b_get X fl_M_61 0 rfl (v := .ref (xa σ 17)) rfl d_M_makeNode_244 ?_
  refine b_bipush X (v := 7) d_M_makeNode_247 (by decide) ?_
  refine b_iload_n X d_M_makeNode_249 2 rfl rfl ?_
  refine b_imul X d_M_makeNode_250 ?_
  refine b_iconst X (v := 5) d_M_makeNode_251 (by decide) ?_
  refine b_iadd X d_M_makeNode_252 ?_
  refine b_dup2 X d_M_makeNode_253 rfl rfl ?_
  refine b_iald X 17 rfl (by decide) n254 e254 h254 d_M_makeNode_254 ?_
  refine b_iconst X (v := 1) d_M_makeNode_255 (by decide) ?_
  refine b_iadd X d_M_makeNode_256 ?_
  refine b_iast X 17 rfl (by decide) n254 e254 h254 (uWM_17 G (wi (wi (wi (wi (wi (wi (wi σ 17 n163 x1) 17 n174 x7) 17 n184 x3) 17 n194 (-1)) 17 n204 x2) 17 n214 0) 17 n238 x8) n254 ((xi (wi (wi (wi (wi (wi (wi (wi σ 17 n163 x1) 17 n174 x7) 17 n184 x3) 17 n194 (-1)) 17 n204 x2) 17 n214 0) 17 n238 x8) 17 n254) + 1)) d_M_makeNode_257 ?_
  refine b_aload_n X d_M_makeNode_258 0 rfl rfl ?_
  refine b_bipush X (v := (-100)) d_M_makeNode_259 (by decide) ?_
  refine b_iload X d_M_makeNode_261 4 rfl ?_
  refine b_isub X d_M_makeNode_263 ?_
  refine b_iload X d_M_makeNode_264 4 rfl ?_
  refine b_lload X d_M_makeNode_266 5 rfl ?_
  refine b_dV X cf_M_push ci_M_push ml_M_141 t268 0 rfl rfl (As := [.int ((-100) - x4), .int x4, .long x5]) (rest := []) rfl (Nat.le_of_ble_eq_true rfl) ⟨Nat.le_of_ble_eq_true rfl, Nat.le_of_ble_eq_true rfl⟩ ⟨Nat.le_of_ble_eq_true rfl, Nat.le_of_ble_eq_true rfl⟩ rfl rfl d_M_makeNode_268 ?_
  refine b_aload_n X d_M_makeNode_271 0 rfl rfl ?_
  refine b_iload_n X d_M_makeNode_272 1 rfl rfl ?_
  refine b_iload X d_M_makeNode_273 6 rfl ?_
  refine b_dV X cf_M_sizeOf ci_M_sizeOf ml_M_77 (ct_M_sizeOf_ G (xa σ, q268) x1 x7 n275 e275 h275) 0 rfl rfl (As := [.int x1, .int x7]) (rest := []) rfl (Nat.le_of_ble_eq_true rfl) ⟨Nat.le_of_ble_eq_true rfl, Nat.le_of_ble_eq_true rfl⟩ ⟨Nat.le_of_ble_eq_true rfl, Nat.le_of_ble_eq_true rfl⟩ rfl rfl d_M_makeNode_275 ?_
  refine b_iconst X (v := 1) d_M_makeNode_278 (by decide) ?_
  refine b_isub X d_M_makeNode_279 ?_
  refine b_istore X (lv' := [(0, .ref (xa σ 0)), (1, .int x1), (2, .int x2), (3, .int x3), (4, .int x4), (5, .long x5), (7, .int x7), (8, .int x8), (9, .int (((xi σ 0 3) - x3) + 1)), (10, .int (7 * x4)), (11, .int ((xi (xa σ, q268) 2 n275) - 1))]) d_M_makeNode_280 (by decide) [1, 2, 3, 4, 5, 6, 7, 8, 9, 10, 0] rfl ?_
  exact k
theorem sg_M_makeNode_83_tft282 {K : KX} {G : GG} {w0 : va_W} {Q : State → Prop} (X : Bd K G w0 "FirstTreesModel" c_M_makeNode 13 none rm_M_makeNode) (σ : St) (x1 : Int32) (x2 : Int32) (x3 : Int32) (x4 : Int32) (x5 : Int64) (x7 : Int32) (x8 : Int32) (x9 : Int32) (n90 : Nat) (n163 : Nat) (n174 : Nat) (n184 : Nat) (n194 : Nat) (n204 : Nat) (n214 : Nat) (n238 : Nat) (q268 : Sq) (n275 : Nat) (e90 : x1 = nI n90) (h90 : n90 < 16) (c91 : (xi σ 1 n90) ≤ x9) (e163 : (7 * x4) = nI n163) (h163 : n163 < 14007) (e174 : ((7 * x4) + 1) = nI n174) (h174 : n174 < 14007) (e184 : ((7 * x4) + 2) = nI n184) (h184 : n184 < 14007) (e194 : ((7 * x4) + 3) = nI n194) (h194 : n194 < 14007) (e204 : ((7 * x4) + 4) = nI n204) (h204 : n204 < 14007) (e214 : ((7 * x4) + 5) = nI n214) (h214 : n214 < 14007) (c228 : ¬ x8 ≤ (((xi σ 0 3) - x3) + 1)) (e238 : ((7 * x4) + 6) = nI n238) (h238 : n238 < 14007) (c240 : x2 < 0) (t268 : Ct y_M_push c_M_push 5 none rm_M_push G [.ref (xa σ 0), .int ((-100) - x4), .int x4, .long x5] (WM G (wi (wi (wi (wi (wi (wi (wi σ 17 n163 x1) 17 n174 x7) 17 n184 x3) 17 n194 (-1)) 17 n204 x2) 17 n214 0) 17 n238 (((xi σ 0 3) - x3) + 1))) (eqp (none) (WM G (xa σ, q268)))) (e275 : ((8 * x1) + x7) = nI n275) (h275 : n275 < 128) (k : Lb K G w0 Q 13 282 [(0, .ref (xa σ 0)), (1, .int x1), (2, .int x2), (3, .int x3), (4, .int x4), (5, .long x5), (7, .int x7), (8, .int x8), (9, .int (((xi σ 0 3) - x3) + 1)), (10, .int (7 * x4)), (11, .int ((xi (xa σ, q268) 2 n275) - 1))] [] (WM G (xa σ, q268)) 0 0) : Lb K G w0 Q 13 83 [(0, .ref (xa σ 0)), (1, .int x1), (2, .int x2), (3, .int x3), (4, .int x4), (5, .long x5), (7, .int x7), (8, .int x8), (9, .int x9)] [] (WM G σ) 0 0 := by
  refine b_iload X d_M_makeNode_83 8 rfl ?_
  refine b_aload_n X d_M_makeNode_85 0 rfl rfl ?_
  refine b_get X fl_M_7 0 rfl (v := .ref (xa σ 1)) rfl d_M_makeNode_86 ?_
  refine b_iload_n X d_M_makeNode_89 1 rfl rfl ?_
  refine b_iald X 1 rfl (by decide) n90 e90 h90 d_M_makeNode_90 ?_
  refine b_icmp_ge X (tgt := 139) d_M_makeNode_91 (by decide) (fun _ => ?_) (fun h => absurd c91 h)
  refine b_aload_n X d_M_makeNode_139 0 rfl rfl ?_
  refine b_get X fl_M_105 0 rfl (v := .int (xi σ 0 3)) rfl d_M_makeNode_140 ?_
  refine b_iload_n X d_M_makeNode_143 3 rfl rfl ?_
  refine b_isub X d_M_makeNode_144 ?_
  refine b_iconst X (v := 1) d_M_makeNode_145 (by decide) ?_
  refine b_iadd X d_M_makeNode_146 ?_
  refine b_istore X (lv' := [(0, .ref (xa σ 0)), (1, .int x1), (2, .int x2), (3, .int x3), (4, .int x4), (5, .long x5), (7, .int x7), (8, .int x8), (9, .int (((xi σ 0 3) - x3) + 1))]) d_M_makeNode_147 (by decide) [1, 2, 3, 4, 5, 6, 7, 8, 0] rfl ?_
  refine b_bipush X (v := 7) d_M_makeNode_149 (by decide) ?_
  refine b_iload X d_M_makeNode_151 4 rfl ?_
  refine b_imul X d_M_makeNode_153 ?_
  refine b_istore X (lv' := [(0, .ref (xa σ 0)), (1, .int x1), (2, .int x2), (3, .int x3), (4, .int x4), (5, .long x5), (7, .int x7), (8, .int x8), (9, .int (((xi σ 0 3) - x3) + 1)), (10, .int (7 * x4))]) d_M_makeNode_154 (by decide) [1, 2, 3, 4, 5, 6, 7, 8, 9, 0] rfl ?_
  refine b_aload_n X d_M_makeNode_156 0 rfl rfl ?_
  refine b_get X fl_M_61 0 rfl (v := .ref (xa σ 17)) rfl d_M_makeNode_157 ?_
  refine b_iload X d_M_makeNode_160 9 rfl ?_
  refine b_iload_n X d_M_makeNode_162 1 rfl rfl ?_
  refine b_iast X 17 rfl (by decide) n163 e163 h163 (uWM_17 G σ n163 x1) d_M_makeNode_163 ?_
  refine b_aload_n X d_M_makeNode_164 0 rfl rfl ?_
  refine b_get X fl_M_61 0 rfl (v := .ref (xa σ 17)) rfl d_M_makeNode_165 ?_
  refine b_iload X d_M_makeNode_168 9 rfl ?_
  refine b_iconst X (v := 1) d_M_makeNode_170 (by decide) ?_
  refine b_iadd X d_M_makeNode_171 ?_
  refine b_iload X d_M_makeNode_172 6 rfl ?_
  refine b_iast X 17 rfl (by decide) n174 e174 h174 (uWM_17 G (wi σ 17 n163 x1) n174 x7) d_M_makeNode_174 ?_
  refine b_aload_n X d_M_makeNode_175 0 rfl rfl ?_
  refine b_get X fl_M_61 0 rfl (v := .ref (xa σ 17)) rfl d_M_makeNode_176 ?_
  refine b_iload X d_M_makeNode_179 9 rfl ?_
  refine b_iconst X (v := 2) d_M_makeNode_181 (by decide) ?_
  refine b_iadd X d_M_makeNode_182 ?_
  refine b_iload_n X d_M_makeNode_183 3 rfl rfl ?_
  refine b_iast X 17 rfl (by decide) n184 e184 h184 (uWM_17 G (wi (wi σ 17 n163 x1) 17 n174 x7) n184 x3) d_M_makeNode_184 ?_
  refine b_aload_n X d_M_makeNode_185 0 rfl rfl ?_
  refine b_get X fl_M_61 0 rfl (v := .ref (xa σ 17)) rfl d_M_makeNode_186 ?_
  refine b_iload X d_M_makeNode_189 9 rfl ?_
  refine b_iconst X (v := 3) d_M_makeNode_191 (by decide) ?_
  refine b_iadd X d_M_makeNode_192 ?_
  refine b_iconst X (v := (-1)) d_M_makeNode_193 (by decide) ?_
  refine b_iast X 17 rfl (by decide) n194 e194 h194 (uWM_17 G (wi (wi (wi σ 17 n163 x1) 17 n174 x7) 17 n184 x3) n194 (-1)) d_M_makeNode_194 ?_
  refine b_aload_n X d_M_makeNode_195 0 rfl rfl ?_
  refine b_get X fl_M_61 0 rfl (v := .ref (xa σ 17)) rfl d_M_makeNode_196 ?_
  refine b_iload X d_M_makeNode_199 9 rfl ?_
  refine b_iconst X (v := 4) d_M_makeNode_201 (by decide) ?_
  refine b_iadd X d_M_makeNode_202 ?_
  refine b_iload_n X d_M_makeNode_203 2 rfl rfl ?_
  refine b_iast X 17 rfl (by decide) n204 e204 h204 (uWM_17 G (wi (wi (wi (wi σ 17 n163 x1) 17 n174 x7) 17 n184 x3) 17 n194 (-1)) n204 x2) d_M_makeNode_204 ?_
  refine b_aload_n X d_M_makeNode_205 0 rfl rfl ?_
  refine b_get X fl_M_61 0 rfl (v := .ref (xa σ 17)) rfl d_M_makeNode_206 ?_
  refine b_iload X d_M_makeNode_209 9 rfl ?_
  refine b_iconst X (v := 5) d_M_makeNode_211 (by decide) ?_
  refine b_iadd X d_M_makeNode_212 ?_
  refine b_iconst X (v := 0) d_M_makeNode_213 (by decide) ?_
  refine b_iast X 17 rfl (by decide) n214 e214 h214 (uWM_17 G (wi (wi (wi (wi (wi σ 17 n163 x1) 17 n174 x7) 17 n184 x3) 17 n194 (-1)) 17 n204 x2) n214 0) d_M_makeNode_214 ?_
  refine b_aload_n X d_M_makeNode_215 0 rfl rfl ?_
  refine b_get X fl_M_61 0 rfl (v := .ref (xa σ 17)) rfl d_M_makeNode_216 ?_
  refine b_iload X d_M_makeNode_219 9 rfl ?_
  refine b_bipush X (v := 6) d_M_makeNode_221 (by decide) ?_
  refine b_iadd X d_M_makeNode_223 ?_
  refine b_iload X d_M_makeNode_224 7 rfl ?_
  refine b_iload X d_M_makeNode_226 8 rfl ?_
  refine b_icmp_le X (tgt := 236) d_M_makeNode_228 (by decide) (fun h => absurd h c228) (fun _ => ?_)
  refine b_iload X d_M_makeNode_231 8 rfl ?_
  refine b_goto X (tgt := 238) d_M_makeNode_233 (by decide) ?_
  refine b_iast X 17 rfl (by decide) n238 e238 h238 (uWM_17 G (wi (wi (wi (wi (wi (wi σ 17 n163 x1) 17 n174 x7) 17 n184 x3) 17 n194 (-1)) 17 n204 x2) 17 n214 0) n238 (((xi σ 0 3) - x3) + 1)) d_M_makeNode_238 ?_
  refine b_iload_n X d_M_makeNode_239 2 rfl rfl ?_
  refine b_if_lt X (tgt := 258) d_M_makeNode_240 (by decide) (fun _ => ?_) (fun h => absurd c240 h)
  refine b_aload_n X d_M_makeNode_258 0 rfl rfl ?_
  refine b_bipush X (v := (-100)) d_M_makeNode_259 (by decide) ?_
  refine b_iload X d_M_makeNode_261 4 rfl ?_
  refine b_isub X d_M_makeNode_263 ?_
  refine b_iload X d_M_makeNode_264 4 rfl ?_
  refine b_lload X d_M_makeNode_266 5 rfl ?_
  refine b_dV X cf_M_push ci_M_push ml_M_141 t268 0 rfl rfl (As := [.int ((-100) - x4), .int x4, .long x5]) (rest := []) rfl (Nat.le_of_ble_eq_true rfl) ⟨Nat.le_of_ble_eq_true rfl, Nat.le_of_ble_eq_true rfl⟩ ⟨Nat.le_of_ble_eq_true rfl, Nat.le_of_ble_eq_true rfl⟩ rfl rfl d_M_makeNode_268 ?_
  refine b_aload_n X d_M_makeNode_271 0 rfl rfl ?_
  refine b_iload_n X d_M_makeNode_272 1 rfl rfl ?_
  refine b_iload X d_M_makeNode_273 6 rfl ?_
  refine b_dV X cf_M_sizeOf ci_M_sizeOf ml_M_77 (ct_M_sizeOf_ G (xa σ, q268) x1 x7 n275 e275 h275) 0 rfl rfl (As := [.int x1, .int x7]) (rest := []) rfl (Nat.le_of_ble_eq_true rfl) ⟨Nat.le_of_ble_eq_true rfl, Nat.le_of_ble_eq_true rfl⟩ ⟨Nat.le_of_ble_eq_true rfl, Nat.le_of_ble_eq_true rfl⟩ rfl rfl d_M_makeNode_275 ?_
  refine b_iconst X (v := 1) d_M_makeNode_278 (by decide) ?_
  refine b_isub X d_M_makeNode_279 ?_
  refine b_istore X (lv' := [(0, .ref (xa σ 0)), (1, .int x1), (2, .int x2), (3, .int x3), (4, .int x4), (5, .long x5), (7, .int x7), (8, .int x8), (9, .int (((xi σ 0 3) - x3) + 1)), (10, .int (7 * x4)), (11, .int ((xi (xa σ, q268) 2 n275) - 1))]) d_M_makeNode_280 (by decide) [1, 2, 3, 4, 5, 6, 7, 8, 9, 10, 0] rfl ?_
  exact k
theorem sg_M_makeNode_83_tff282 {K : KX} {G : GG} {w0 : va_W} {Q : State → Prop} (X : Bd K G w0 "FirstTreesModel" c_M_makeNode 13 none rm_M_makeNode) (σ : St) (x1 : Int32) (x2 : Int32) (x3 : Int32) (x4 : Int32) (x5 : Int64) (x7 : Int32) (x8 : Int32) (x9 : Int32) (n90 : Nat) (n163 : Nat) (n174 : Nat) (n184 : Nat) (n194 : Nat) (n204 : Nat) (n214 : Nat) (n238 : Nat) (n254 : Nat) (q268 : Sq) (n275 : Nat) (e90 : x1 = nI n90) (h90 : n90 < 16) (c91 : (xi σ 1 n90) ≤ x9) (e163 : (7 * x4) = nI n163) (h163 : n163 < 14007) (e174 : ((7 * x4) + 1) = nI n174) (h174 : n174 < 14007) (e184 : ((7 * x4) + 2) = nI n184) (h184 : n184 < 14007) (e194 : ((7 * x4) + 3) = nI n194) (h194 : n194 < 14007) (e204 : ((7 * x4) + 4) = nI n204) (h204 : n204 < 14007) (e214 : ((7 * x4) + 5) = nI n214) (h214 : n214 < 14007) (c228 : ¬ x8 ≤ (((xi σ 0 3) - x3) + 1)) (e238 : ((7 * x4) + 6) = nI n238) (h238 : n238 < 14007) (c240 : ¬ x2 < 0) (e254 : ((7 * x2) + 5) = nI n254) (h254 : n254 < 14007) (t268 : Ct y_M_push c_M_push 5 none rm_M_push G [.ref (xa σ 0), .int ((-100) - x4), .int x4, .long x5] (WM G (wi (wi (wi (wi (wi (wi (wi (wi σ 17 n163 x1) 17 n174 x7) 17 n184 x3) 17 n194 (-1)) 17 n204 x2) 17 n214 0) 17 n238 (((xi σ 0 3) - x3) + 1)) 17 n254 ((xi (wi (wi (wi (wi (wi (wi (wi σ 17 n163 x1) 17 n174 x7) 17 n184 x3) 17 n194 (-1)) 17 n204 x2) 17 n214 0) 17 n238 (((xi σ 0 3) - x3) + 1)) 17 n254) + 1))) (eqp (none) (WM G (xa σ, q268)))) (e275 : ((8 * x1) + x7) = nI n275) (h275 : n275 < 128) (k : Lb K G w0 Q 13 282 [(0, .ref (xa σ 0)), (1, .int x1), (2, .int x2), (3, .int x3), (4, .int x4), (5, .long x5), (7, .int x7), (8, .int x8), (9, .int (((xi σ 0 3) - x3) + 1)), (10, .int (7 * x4)), (11, .int ((xi (xa σ, q268) 2 n275) - 1))] [] (WM G (xa σ, q268)) 0 0) : Lb K G w0 Q 13 83 [(0, .ref (xa σ 0)), (1, .int x1), (2, .int x2), (3, .int x3), (4, .int x4), (5, .long x5), (7, .int x7), (8, .int x8), (9, .int x9)] [] (WM G σ) 0 0 := by
  refine b_iload X d_M_makeNode_83 8 rfl ?_
  refine b_aload_n X d_M_makeNode_85 0 rfl rfl ?_
  refine b_get X fl_M_7 0 rfl (v := .ref (xa σ 1)) rfl d_M_makeNode_86 ?_
  refine b_iload_n X d_M_makeNode_89 1 rfl rfl ?_
  refine b_iald X 1 rfl (by decide) n90 e90 h90 d_M_makeNode_90 ?_
  refine b_icmp_ge X (tgt := 139) d_M_makeNode_91 (by decide) (fun _ => ?_) (fun h => absurd c91 h)
  refine b_aload_n X d_M_makeNode_139 0 rfl rfl ?_
  refine b_get X fl_M_105 0 rfl (v := .int (xi σ 0 3)) rfl d_M_makeNode_140 ?_
  refine b_iload_n X d_M_makeNode_143 3 rfl rfl ?_
  refine b_isub X d_M_makeNode_144 ?_
  refine b_iconst X (v := 1) d_M_makeNode_145 (by decide) ?_
  refine b_iadd X d_M_makeNode_146 ?_
  refine b_istore X (lv' := [(0, .ref (xa σ 0)), (1, .int x1), (2, .int x2), (3, .int x3), (4, .int x4), (5, .long x5), (7, .int x7), (8, .int x8), (9, .int (((xi σ 0 3) - x3) + 1))]) d_M_makeNode_147 (by decide) [1, 2, 3, 4, 5, 6, 7, 8, 0] rfl ?_
  refine b_bipush X (v := 7) d_M_makeNode_149 (by decide) ?_
  refine b_iload X d_M_makeNode_151 4 rfl ?_
  refine b_imul X d_M_makeNode_153 ?_
  refine b_istore X (lv' := [(0, .ref (xa σ 0)), (1, .int x1), (2, .int x2), (3, .int x3), (4, .int x4), (5, .long x5), (7, .int x7), (8, .int x8), (9, .int (((xi σ 0 3) - x3) + 1)), (10, .int (7 * x4))]) d_M_makeNode_154 (by decide) [1, 2, 3, 4, 5, 6, 7, 8, 9, 0] rfl ?_
  refine b_aload_n X d_M_makeNode_156 0 rfl rfl ?_
  refine b_get X fl_M_61 0 rfl (v := .ref (xa σ 17)) rfl d_M_makeNode_157 ?_
  refine b_iload X d_M_makeNode_160 9 rfl ?_
  refine b_iload_n X d_M_makeNode_162 1 rfl rfl ?_
  refine b_iast X 17 rfl (by decide) n163 e163 h163 (uWM_17 G σ n163 x1) d_M_makeNode_163 ?_
  refine b_aload_n X d_M_makeNode_164 0 rfl rfl ?_
  refine b_get X fl_M_61 0 rfl (v := .ref (xa σ 17)) rfl d_M_makeNode_165 ?_
  refine b_iload X d_M_makeNode_168 9 rfl ?_
  refine b_iconst X (v := 1) d_M_makeNode_170 (by decide) ?_
  refine b_iadd X d_M_makeNode_171 ?_
  refine b_iload X d_M_makeNode_172 6 rfl ?_
  refine b_iast X 17 rfl (by decide) n174 e174 h174 (uWM_17 G (wi σ 17 n163 x1) n174 x7) d_M_makeNode_174 ?_
  refine b_aload_n X d_M_makeNode_175 0 rfl rfl ?_
  refine b_get X fl_M_61 0 rfl (v := .ref (xa σ 17)) rfl d_M_makeNode_176 ?_
  refine b_iload X d_M_makeNode_179 9 rfl ?_
  refine b_iconst X (v := 2) d_M_makeNode_181 (by decide) ?_
  refine b_iadd X d_M_makeNode_182 ?_
  refine b_iload_n X d_M_makeNode_183 3 rfl rfl ?_
  refine b_iast X 17 rfl (by decide) n184 e184 h184 (uWM_17 G (wi (wi σ 17 n163 x1) 17 n174 x7) n184 x3) d_M_makeNode_184 ?_
  refine b_aload_n X d_M_makeNode_185 0 rfl rfl ?_
  refine b_get X fl_M_61 0 rfl (v := .ref (xa σ 17)) rfl d_M_makeNode_186 ?_
  refine b_iload X d_M_makeNode_189 9 rfl ?_
  refine b_iconst X (v := 3) d_M_makeNode_191 (by decide) ?_
  refine b_iadd X d_M_makeNode_192 ?_
  refine b_iconst X (v := (-1)) d_M_makeNode_193 (by decide) ?_
  refine b_iast X 17 rfl (by decide) n194 e194 h194 (uWM_17 G (wi (wi (wi σ 17 n163 x1) 17 n174 x7) 17 n184 x3) n194 (-1)) d_M_makeNode_194 ?_
  refine b_aload_n X d_M_makeNode_195 0 rfl rfl ?_
  refine b_get X fl_M_61 0 rfl (v := .ref (xa σ 17)) rfl d_M_makeNode_196 ?_
  refine b_iload X d_M_makeNode_199 9 rfl ?_
  refine b_iconst X (v := 4) d_M_makeNode_201 (by decide) ?_
  refine b_iadd X d_M_makeNode_202 ?_
  refine b_iload_n X d_M_makeNode_203 2 rfl rfl ?_
  refine b_iast X 17 rfl (by decide) n204 e204 h204 (uWM_17 G (wi (wi (wi (wi σ 17 n163 x1) 17 n174 x7) 17 n184 x3) 17 n194 (-1)) n204 x2) d_M_makeNode_204 ?_
  refine b_aload_n X d_M_makeNode_205 0 rfl rfl ?_
  refine b_get X fl_M_61 0 rfl (v := .ref (xa σ 17)) rfl d_M_makeNode_206 ?_
  refine b_iload X d_M_makeNode_209 9 rfl ?_
  refine b_iconst X (v := 5) d_M_makeNode_211 (by decide) ?_
  refine b_iadd X d_M_makeNode_212 ?_
  refine b_iconst X (v := 0) d_M_makeNode_213 (by decide) ?_
  refine b_iast X 17 rfl (by decide) n214 e214 h214 (uWM_17 G (wi (wi (wi (wi (wi σ 17 n163 x1) 17 n174 x7) 17 n184 x3) 17 n194 (-1)) 17 n204 x2) n214 0) d_M_makeNode_214 ?_
  refine b_aload_n X d_M_makeNode_215 0 rfl rfl ?_
  refine b_get X fl_M_61 0 rfl (v := .ref (xa σ 17)) rfl d_M_makeNode_216 ?_
  refine b_iload X d_M_makeNode_219 9 rfl ?_
  refine b_bipush X (v := 6) d_M_makeNode_221 (by decide) ?_
  refine b_iadd X d_M_makeNode_223 ?_
  refine b_iload X d_M_makeNode_224 7 rfl ?_
  refine b_iload X d_M_makeNode_226 8 rfl ?_
  refine b_icmp_le X (tgt := 236) d_M_makeNode_228 (by decide) (fun h => absurd h c228) (fun _ => ?_)
  refine b_iload X d_M_makeNode_231 8 rfl ?_
  refine b_goto X (tgt := 238) d_M_makeNode_233 (by decide) ?_
  refine b_iast X 17 rfl (by decide) n238 e238 h238 (uWM_17 G (wi (wi (wi (wi (wi (wi σ 17 n163 x1) 17 n174 x7) 17 n184 x3) 17 n194 (-1)) 17 n204 x2) 17 n214 0) n238 (((xi σ 0 3) - x3) + 1)) d_M_makeNode_238 ?_
  refine b_iload_n X d_M_makeNode_239 2 rfl rfl ?_
  refine b_if_lt X (tgt := 258) d_M_makeNode_240 (by decide) (fun h => absurd h c240) (fun _ => ?_)
  refine b_aload_n X d_M_makeNode_243 0 rfl rfl ?_
  refine b_get X fl_M_61 0 rfl (v := .ref (xa σ 17)) rfl d_M_makeNode_244 ?_
  refine b_bipush X (v := 7) d_M_makeNode_247 (by decide) ?_
  refine b_iload_n X d_M_makeNode_249 2 rfl rfl ?_
  refine b_imul X d_M_makeNode_250 ?_
  refine b_iconst X (v := 5) d_M_makeNode_251 (by decide) ?_
  refine b_iadd X d_M_makeNode_252 ?_
  refine b_dup2 X d_M_makeNode_253 rfl rfl ?_
  refine b_iald X 17 rfl (by decide) n254 e254 h254 d_M_makeNode_254 ?_
  refine b_iconst X (v := 1) d_M_makeNode_255 (by decide) ?_
  refine b_iadd X d_M_makeNode_256 ?_
  refine b_iast X 17 rfl (by decide) n254 e254 h254 (uWM_17 G (wi (wi (wi (wi (wi (wi (wi σ 17 n163 x1) 17 n174 x7) 17 n184 x3) 17 n194 (-1)) 17 n204 x2) 17 n214 0) 17 n238 (((xi σ 0 3) - x3) + 1)) n254 ((xi (wi (wi (wi (wi (wi (wi (wi σ 17 n163 x1) 17 n174 x7) 17 n184 x3) 17 n194 (-1)) 17 n204 x2) 17 n214 0) 17 n238 (((xi σ 0 3) - x3) + 1)) 17 n254) + 1)) d_M_makeNode_257 ?_
  refine b_aload_n X d_M_makeNode_258 0 rfl rfl ?_
  refine b_bipush X (v := (-100)) d_M_makeNode_259 (by decide) ?_
  refine b_iload X d_M_makeNode_261 4 rfl ?_
  refine b_isub X d_M_makeNode_263 ?_
  refine b_iload X d_M_makeNode_264 4 rfl ?_
  refine b_lload X d_M_makeNode_266 5 rfl ?_
  refine b_dV X cf_M_push ci_M_push ml_M_141 t268 0 rfl rfl (As := [.int ((-100) - x4), .int x4, .long x5]) (rest := []) rfl (Nat.le_of_ble_eq_true rfl) ⟨Nat.le_of_ble_eq_true rfl, Nat.le_of_ble_eq_true rfl⟩ ⟨Nat.le_of_ble_eq_true rfl, Nat.le_of_ble_eq_true rfl⟩ rfl rfl d_M_makeNode_268 ?_
  refine b_aload_n X d_M_makeNode_271 0 rfl rfl ?_
  refine b_iload_n X d_M_makeNode_272 1 rfl rfl ?_
  refine b_iload X d_M_makeNode_273 6 rfl ?_
  refine b_dV X cf_M_sizeOf ci_M_sizeOf ml_M_77 (ct_M_sizeOf_ G (xa σ, q268) x1 x7 n275 e275 h275) 0 rfl rfl (As := [.int x1, .int x7]) (rest := []) rfl (Nat.le_of_ble_eq_true rfl) ⟨Nat.le_of_ble_eq_true rfl, Nat.le_of_ble_eq_true rfl⟩ ⟨Nat.le_of_ble_eq_true rfl, Nat.le_of_ble_eq_true rfl⟩ rfl rfl d_M_makeNode_275 ?_
  refine b_iconst X (v := 1) d_M_makeNode_278 (by decide) ?_
  refine b_isub X d_M_makeNode_279 ?_
  refine b_istore X (lv' := [(0, .ref (xa σ 0)), (1, .int x1), (2, .int x2), (3, .int x3), (4, .int x4), (5, .long x5), (7, .int x7), (8, .int x8), (9, .int (((xi σ 0 3) - x3) + 1)), (10, .int (7 * x4)), (11, .int ((xi (xa σ, q268) 2 n275) - 1))]) d_M_makeNode_280 (by decide) [1, 2, 3, 4, 5, 6, 7, 8, 9, 10, 0] rfl ?_
  exact k
theorem sg_M_makeNode_83_ftt83 {K : KX} {G : GG} {w0 : va_W} {Q : State → Prop} (X : Bd K G w0 "FirstTreesModel" c_M_makeNode 13 none rm_M_makeNode) (σ : St) (x1 : Int32) (x2 : Int32) (x3 : Int32) (x4 : Int32) (x5 : Int64) (x7 : Int32) (x8 : Int32) (x9 : Int32) (n90 : Nat) (r110 : Int32) (q110 : Sq) (e90 : x1 = nI n90) (h90 : n90 < 16) (c91 : ¬ (xi σ 1 n90) ≤ x9) (c98 : ¬ x9 = x7) (t110 : Ct y_M_reachOf c_M_reachOf 7 (some .int) rm_M_reachOf G [.ref (xa σ 0), .int x1, .int x9, .int x3] (WM G σ) (eqp (some (.int r110)) (WM G (xa σ, q110)))) (c121 : (r110 + 1) ≤ x8) (k : Lb K G w0 Q 13 83 [(0, .ref (xa σ 0)), (1, .int x1), (2, .int x2), (3, .int x3), (4, .int x4), (5, .long x5), (7, .int x7), (8, .int x8), (9, .int (x9 + 1))] [] (WM G (xa σ, q110)) 0 0) : Lb K G w0 Q 13 83 [(0, .ref (xa σ 0)), (1, .int x1), (2, .int x2), (3, .int x3), (4, .int x4), (5, .long x5), (7, .int x7), (8, .int x8), (9, .int x9)] [] (WM G σ) 0 0 := by
  refine b_iload X d_M_makeNode_83 8 rfl ?_
  refine b_aload_n X d_M_makeNode_85 0 rfl rfl ?_
  refine b_get X fl_M_7 0 rfl (v := .ref (xa σ 1)) rfl d_M_makeNode_86 ?_
  refine b_iload_n X d_M_makeNode_89 1 rfl rfl ?_
  refine b_iald X 1 rfl (by decide) n90 e90 h90 d_M_makeNode_90 ?_
  refine b_icmp_ge X (tgt := 139) d_M_makeNode_91 (by decide) (fun h => absurd h c91) (fun _ => ?_)
  refine b_iload X d_M_makeNode_94 8 rfl ?_
  refine b_iload X d_M_makeNode_96 6 rfl ?_
  refine b_icmp_ne X (tgt := 105) d_M_makeNode_98 (by decide) (fun _ => ?_) (fun h => absurd h c98)
  refine b_aload_n X d_M_makeNode_105 0 rfl rfl ?_
  refine b_iload_n X d_M_makeNode_106 1 rfl rfl ?_
  refine b_iload X d_M_makeNode_107 8 rfl ?_
  refine b_iload_n X d_M_makeNode_109 3 rfl rfl ?_
  refine b_dV X cf_M_reachOf ci_M_reachOf ml_M_138 t110 0 rfl rfl (As := [.int x1, .int x9, .int x3]) (rest := []) rfl (Nat.le_of_ble_eq_true rfl) ⟨Nat.le_of_ble_eq_true rfl, Nat.le_of_ble_eq_true rfl⟩ ⟨Nat.le_of_ble_eq_true rfl, Nat.le_of_ble_eq_true rfl⟩ rfl rfl d_M_makeNode_110 ?_
  refine b_iconst X (v := 1) d_M_makeNode_113 (by decide) ?_
  refine b_iadd X d_M_makeNode_114 ?_
  refine b_istore X (lv' := [(0, .ref (xa σ 0)), (1, .int x1), (2, .int x2), (3, .int x3), (4, .int x4), (5, .long x5), (7, .int x7), (8, .int x8), (9, .int x9), (10, .int (r110 + 1))]) d_M_makeNode_115 (by decide) [1, 2, 3, 4, 5, 6, 7, 8, 9, 0] rfl ?_
  refine b_iload X d_M_makeNode_117 9 rfl ?_
  refine b_iload X d_M_makeNode_119 7 rfl ?_
  refine b_icmp_le X (tgt := 129) d_M_makeNode_121 (by decide) (fun _ => ?_) (fun h => absurd c121 h)
  refine b_iload X d_M_makeNode_129 7 rfl ?_
  refine b_istore X (lv' := [(0, .ref (xa σ 0)), (1, .int x1), (2, .int x2), (3, .int x3), (4, .int x4), (5, .long x5), (7, .int x7), (8, .int x8), (9, .int x9), (10, .int (r110 + 1))]) d_M_makeNode_131 (by decide) [1, 2, 3, 4, 5, 6, 7, 0, 8, 9] rfl ?_
  refine b_iinc X (lv' := [(0, .ref (xa σ 0)), (1, .int x1), (2, .int x2), (3, .int x3), (4, .int x4), (5, .long x5), (7, .int x7), (8, .int x8), (9, .int (x9 + 1)), (10, .int (r110 + 1))]) d_M_makeNode_133 8 rfl (v := (x9 + 1)) rfl (by decide) [1, 2, 3, 4, 5, 6, 7, 8, 0, 9] rfl ?_
  refine b_goto X (tgt := 83) d_M_makeNode_136 (by decide) ?_
  refine Lb.pick (lv' := [(0, .ref (xa σ 0)), (1, .int x1), (2, .int x2), (3, .int x3), (4, .int x4), (5, .long x5), (7, .int x7), (8, .int x8), (9, .int (x9 + 1))]) [0, 1, 2, 3, 4, 5, 6, 7, 8] rfl ?_
  exact k
theorem sg_M_makeNode_83_ftf83 {K : KX} {G : GG} {w0 : va_W} {Q : State → Prop} (X : Bd K G w0 "FirstTreesModel" c_M_makeNode 13 none rm_M_makeNode) (σ : St) (x1 : Int32) (x2 : Int32) (x3 : Int32) (x4 : Int32) (x5 : Int64) (x7 : Int32) (x8 : Int32) (x9 : Int32) (n90 : Nat) (r110 : Int32) (q110 : Sq) (e90 : x1 = nI n90) (h90 : n90 < 16) (c91 : ¬ (xi σ 1 n90) ≤ x9) (c98 : ¬ x9 = x7) (t110 : Ct y_M_reachOf c_M_reachOf 7 (some .int) rm_M_reachOf G [.ref (xa σ 0), .int x1, .int x9, .int x3] (WM G σ) (eqp (some (.int r110)) (WM G (xa σ, q110)))) (c121 : ¬ (r110 + 1) ≤ x8) (k : Lb K G w0 Q 13 83 [(0, .ref (xa σ 0)), (1, .int x1), (2, .int x2), (3, .int x3), (4, .int x4), (5, .long x5), (7, .int x7), (8, .int (r110 + 1)), (9, .int (x9 + 1))] [] (WM G (xa σ, q110)) 0 0) : Lb K G w0 Q 13 83 [(0, .ref (xa σ 0)), (1, .int x1), (2, .int x2), (3, .int x3), (4, .int x4), (5, .long x5), (7, .int x7), (8, .int x8), (9, .int x9)] [] (WM G σ) 0 0 := by
  refine b_iload X d_M_makeNode_83 8 rfl ?_
  refine b_aload_n X d_M_makeNode_85 0 rfl rfl ?_
  refine b_get X fl_M_7 0 rfl (v := .ref (xa σ 1)) rfl d_M_makeNode_86 ?_
  refine b_iload_n X d_M_makeNode_89 1 rfl rfl ?_
  refine b_iald X 1 rfl (by decide) n90 e90 h90 d_M_makeNode_90 ?_
  refine b_icmp_ge X (tgt := 139) d_M_makeNode_91 (by decide) (fun h => absurd h c91) (fun _ => ?_)
  refine b_iload X d_M_makeNode_94 8 rfl ?_
  refine b_iload X d_M_makeNode_96 6 rfl ?_
  refine b_icmp_ne X (tgt := 105) d_M_makeNode_98 (by decide) (fun _ => ?_) (fun h => absurd h c98)
  refine b_aload_n X d_M_makeNode_105 0 rfl rfl ?_
  refine b_iload_n X d_M_makeNode_106 1 rfl rfl ?_
  refine b_iload X d_M_makeNode_107 8 rfl ?_
  refine b_iload_n X d_M_makeNode_109 3 rfl rfl ?_
  refine b_dV X cf_M_reachOf ci_M_reachOf ml_M_138 t110 0 rfl rfl (As := [.int x1, .int x9, .int x3]) (rest := []) rfl (Nat.le_of_ble_eq_true rfl) ⟨Nat.le_of_ble_eq_true rfl, Nat.le_of_ble_eq_true rfl⟩ ⟨Nat.le_of_ble_eq_true rfl, Nat.le_of_ble_eq_true rfl⟩ rfl rfl d_M_makeNode_110 ?_
  refine b_iconst X (v := 1) d_M_makeNode_113 (by decide) ?_
  refine b_iadd X d_M_makeNode_114 ?_
  refine b_istore X (lv' := [(0, .ref (xa σ 0)), (1, .int x1), (2, .int x2), (3, .int x3), (4, .int x4), (5, .long x5), (7, .int x7), (8, .int x8), (9, .int x9), (10, .int (r110 + 1))]) d_M_makeNode_115 (by decide) [1, 2, 3, 4, 5, 6, 7, 8, 9, 0] rfl ?_
  refine b_iload X d_M_makeNode_117 9 rfl ?_
  refine b_iload X d_M_makeNode_119 7 rfl ?_
  refine b_icmp_le X (tgt := 129) d_M_makeNode_121 (by decide) (fun h => absurd h c121) (fun _ => ?_)
  refine b_iload X d_M_makeNode_124 9 rfl ?_
  refine b_goto X (tgt := 131) d_M_makeNode_126 (by decide) ?_
  refine b_istore X (lv' := [(0, .ref (xa σ 0)), (1, .int x1), (2, .int x2), (3, .int x3), (4, .int x4), (5, .long x5), (7, .int x7), (8, .int (r110 + 1)), (9, .int x9), (10, .int (r110 + 1))]) d_M_makeNode_131 (by decide) [1, 2, 3, 4, 5, 6, 7, 0, 8, 9] rfl ?_
  refine b_iinc X (lv' := [(0, .ref (xa σ 0)), (1, .int x1), (2, .int x2), (3, .int x3), (4, .int x4), (5, .long x5), (7, .int x7), (8, .int (r110 + 1)), (9, .int (x9 + 1)), (10, .int (r110 + 1))]) d_M_makeNode_133 8 rfl (v := (x9 + 1)) rfl (by decide) [1, 2, 3, 4, 5, 6, 7, 8, 0, 9] rfl ?_
  refine b_goto X (tgt := 83) d_M_makeNode_136 (by decide) ?_
  refine Lb.pick (lv' := [(0, .ref (xa σ 0)), (1, .int x1), (2, .int x2), (3, .int x3), (4, .int x4), (5, .long x5), (7, .int x7), (8, .int (r110 + 1)), (9, .int (x9 + 1))]) [0, 1, 2, 3, 4, 5, 6, 7, 8] rfl ?_
  exact k
theorem sg_M_makeNode_83_fft83 {K : KX} {G : GG} {w0 : va_W} {Q : State → Prop} (X : Bd K G w0 "FirstTreesModel" c_M_makeNode 13 none rm_M_makeNode) (σ : St) (x1 : Int32) (x2 : Int32) (x3 : Int32) (x4 : Int32) (x5 : Int64) (x7 : Int32) (x8 : Int32) (x9 : Int32) (n90 : Nat) (e90 : x1 = nI n90) (h90 : n90 < 16) (c91 : ¬ (xi σ 1 n90) ≤ x9) (c98 : x9 = x7) (c121 : 0 ≤ x8) (k : Lb K G w0 Q 13 83 [(0, .ref (xa σ 0)), (1, .int x1), (2, .int x2), (3, .int x3), (4, .int x4), (5, .long x5), (7, .int x7), (8, .int x8), (9, .int (x9 + 1))] [] (WM G σ) 0 0) : Lb K G w0 Q 13 83 [(0, .ref (xa σ 0)), (1, .int x1), (2, .int x2), (3, .int x3), (4, .int x4), (5, .long x5), (7, .int x7), (8, .int x8), (9, .int x9)] [] (WM G σ) 0 0 := by
  refine b_iload X d_M_makeNode_83 8 rfl ?_
  refine b_aload_n X d_M_makeNode_85 0 rfl rfl ?_
  refine b_get X fl_M_7 0 rfl (v := .ref (xa σ 1)) rfl d_M_makeNode_86 ?_
  refine b_iload_n X d_M_makeNode_89 1 rfl rfl ?_
  refine b_iald X 1 rfl (by decide) n90 e90 h90 d_M_makeNode_90 ?_
  refine b_icmp_ge X (tgt := 139) d_M_makeNode_91 (by decide) (fun h => absurd h c91) (fun _ => ?_)
  refine b_iload X d_M_makeNode_94 8 rfl ?_
  refine b_iload X d_M_makeNode_96 6 rfl ?_
  refine b_icmp_ne X (tgt := 105) d_M_makeNode_98 (by decide) (fun h => absurd c98 h) (fun _ => ?_)
  refine b_iconst X (v := 0) d_M_makeNode_101 (by decide) ?_
  refine b_goto X (tgt := 115) d_M_makeNode_102 (by decide) ?_
  refine b_istore X (lv' := [(0, .ref (xa σ 0)), (1, .int x1), (2, .int x2), (3, .int x3), (4, .int x4), (5, .long x5), (7, .int x7), (8, .int x8), (9, .int x9), (10, .int 0)]) d_M_makeNode_115 (by decide) [1, 2, 3, 4, 5, 6, 7, 8, 9, 0] rfl ?_
  refine b_iload X d_M_makeNode_117 9 rfl ?_
  refine b_iload X d_M_makeNode_119 7 rfl ?_
  refine b_icmp_le X (tgt := 129) d_M_makeNode_121 (by decide) (fun _ => ?_) (fun h => absurd c121 h)
  refine b_iload X d_M_makeNode_129 7 rfl ?_
  refine b_istore X (lv' := [(0, .ref (xa σ 0)), (1, .int x1), (2, .int x2), (3, .int x3), (4, .int x4), (5, .long x5), (7, .int x7), (8, .int x8), (9, .int x9), (10, .int 0)]) d_M_makeNode_131 (by decide) [1, 2, 3, 4, 5, 6, 7, 0, 8, 9] rfl ?_
  refine b_iinc X (lv' := [(0, .ref (xa σ 0)), (1, .int x1), (2, .int x2), (3, .int x3), (4, .int x4), (5, .long x5), (7, .int x7), (8, .int x8), (9, .int (x9 + 1)), (10, .int 0)]) d_M_makeNode_133 8 rfl (v := (x9 + 1)) rfl (by decide) [1, 2, 3, 4, 5, 6, 7, 8, 0, 9] rfl ?_
  refine b_goto X (tgt := 83) d_M_makeNode_136 (by decide) ?_
  refine Lb.pick (lv' := [(0, .ref (xa σ 0)), (1, .int x1), (2, .int x2), (3, .int x3), (4, .int x4), (5, .long x5), (7, .int x7), (8, .int x8), (9, .int (x9 + 1))]) [0, 1, 2, 3, 4, 5, 6, 7, 8] rfl ?_
  exact k
theorem sg_M_makeNode_83_fff83 {K : KX} {G : GG} {w0 : va_W} {Q : State → Prop} (X : Bd K G w0 "FirstTreesModel" c_M_makeNode 13 none rm_M_makeNode) (σ : St) (x1 : Int32) (x2 : Int32) (x3 : Int32) (x4 : Int32) (x5 : Int64) (x7 : Int32) (x8 : Int32) (x9 : Int32) (n90 : Nat) (e90 : x1 = nI n90) (h90 : n90 < 16) (c91 : ¬ (xi σ 1 n90) ≤ x9) (c98 : x9 = x7) (c121 : ¬ 0 ≤ x8) (k : Lb K G w0 Q 13 83 [(0, .ref (xa σ 0)), (1, .int x1), (2, .int x2), (3, .int x3), (4, .int x4), (5, .long x5), (7, .int x7), (8, .int 0), (9, .int (x9 + 1))] [] (WM G σ) 0 0) : Lb K G w0 Q 13 83 [(0, .ref (xa σ 0)), (1, .int x1), (2, .int x2), (3, .int x3), (4, .int x4), (5, .long x5), (7, .int x7), (8, .int x8), (9, .int x9)] [] (WM G σ) 0 0 := by
  refine b_iload X d_M_makeNode_83 8 rfl ?_
  refine b_aload_n X d_M_makeNode_85 0 rfl rfl ?_
  refine b_get X fl_M_7 0 rfl (v := .ref (xa σ 1)) rfl d_M_makeNode_86 ?_
  refine b_iload_n X d_M_makeNode_89 1 rfl rfl ?_
  refine b_iald X 1 rfl (by decide) n90 e90 h90 d_M_makeNode_90 ?_
  refine b_icmp_ge X (tgt := 139) d_M_makeNode_91 (by decide) (fun h => absurd h c91) (fun _ => ?_)
  refine b_iload X d_M_makeNode_94 8 rfl ?_
  refine b_iload X d_M_makeNode_96 6 rfl ?_
  refine b_icmp_ne X (tgt := 105) d_M_makeNode_98 (by decide) (fun h => absurd c98 h) (fun _ => ?_)
  refine b_iconst X (v := 0) d_M_makeNode_101 (by decide) ?_
  refine b_goto X (tgt := 115) d_M_makeNode_102 (by decide) ?_
  refine b_istore X (lv' := [(0, .ref (xa σ 0)), (1, .int x1), (2, .int x2), (3, .int x3), (4, .int x4), (5, .long x5), (7, .int x7), (8, .int x8), (9, .int x9), (10, .int 0)]) d_M_makeNode_115 (by decide) [1, 2, 3, 4, 5, 6, 7, 8, 9, 0] rfl ?_
  refine b_iload X d_M_makeNode_117 9 rfl ?_
  refine b_iload X d_M_makeNode_119 7 rfl ?_
  refine b_icmp_le X (tgt := 129) d_M_makeNode_121 (by decide) (fun h => absurd h c121) (fun _ => ?_)
  refine b_iload X d_M_makeNode_124 9 rfl ?_
  refine b_goto X (tgt := 131) d_M_makeNode_126 (by decide) ?_
  refine b_istore X (lv' := [(0, .ref (xa σ 0)), (1, .int x1), (2, .int x2), (3, .int x3), (4, .int x4), (5, .long x5), (7, .int x7), (8, .int 0), (9, .int x9), (10, .int 0)]) d_M_makeNode_131 (by decide) [1, 2, 3, 4, 5, 6, 7, 0, 8, 9] rfl ?_
  refine b_iinc X (lv' := [(0, .ref (xa σ 0)), (1, .int x1), (2, .int x2), (3, .int x3), (4, .int x4), (5, .long x5), (7, .int x7), (8, .int 0), (9, .int (x9 + 1)), (10, .int 0)]) d_M_makeNode_133 8 rfl (v := (x9 + 1)) rfl (by decide) [1, 2, 3, 4, 5, 6, 7, 8, 0, 9] rfl ?_
  refine b_goto X (tgt := 83) d_M_makeNode_136 (by decide) ?_
  refine Lb.pick (lv' := [(0, .ref (xa σ 0)), (1, .int x1), (2, .int x2), (3, .int x3), (4, .int x4), (5, .long x5), (7, .int x7), (8, .int 0), (9, .int (x9 + 1))]) [0, 1, 2, 3, 4, 5, 6, 7, 8] rfl ?_
  exact k
theorem sg_M_makeNode_282_tr {K : KX} {G : GG} {w0 : va_W} {post : PostT} (X : Bd K G w0 "FirstTreesModel" c_M_makeNode 13 none rm_M_makeNode) (σ : St) (x1 : Int32) (x2 : Int32) (x3 : Int32) (x4 : Int32) (x5 : Int64) (x7 : Int32) (x8 : Int32) (x9 : Int32) (x10 : Int32) (x11 : Int32)  (c284 : x11 < 0) (hp : post none (WM G σ)) : Lb K G w0 (Qe K G w0 post rm_M_makeNode) 13 282 [(0, .ref (xa σ 0)), (1, .int x1), (2, .int x2), (3, .int x3), (4, .int x4), (5, .long x5), (7, .int x7), (8, .int x8), (9, .int x9), (10, .int x10), (11, .int x11)] [] (WM G σ) 0 0 := by
  refine b_iload X d_M_makeNode_282 10 rfl ?_
  refine b_if_lt X (tgt := 329) d_M_makeNode_284 (by decide) (fun _ => ?_) (fun h => absurd c284 h)
  exact b_vret X d_M_makeNode_329 hp
theorem sg_M_makeNode_282_f282 {K : KX} {G : GG} {w0 : va_W} {Q : State → Prop} (X : Bd K G w0 "FirstTreesModel" c_M_makeNode 13 none rm_M_makeNode) (σ : St) (x1 : Int32) (x2 : Int32) (x3 : Int32) (x4 : Int32) (x5 : Int64) (x7 : Int32) (x8 : Int32) (x9 : Int32) (x10 : Int32) (x11 : Int32) (n293 : Nat) (n314 : Nat) (r317 : Int64) (q320 : Sq) (c284 : ¬ x11 < 0) (e293 : (((64 * x1) + (8 * x7)) + x11) = nI n293) (h293 : n293 < 1024) (e314 : ((xi σ 0 6) - 1) = nI n314) (h314 : n314 < 20000) (t317 : Ct y_M_before c_M_before 8 (some .long) rm_M_before G [.ref (xa σ 0), .long (xl σ 20 n314), .int (xi σ 3 n293)] (WM G σ) (eqp (some (.long r317)) (WM G σ))) (t320 : Ct y_M_push c_M_push 5 none rm_M_push G [.ref (xa σ 0), .int (xi σ 3 n293), .int x4, .long r317] (WM G σ) (eqp (none) (WM G (xa σ, q320)))) (k : Lb K G w0 Q 13 282 [(0, .ref (xa σ 0)), (1, .int x1), (2, .int x2), (3, .int x3), (4, .int x4), (5, .long x5), (7, .int x7), (8, .int x8), (9, .int x9), (10, .int x10), (11, .int (x11 + (-1)))] [] (WM G (xa σ, q320)) 0 0) : Lb K G w0 Q 13 282 [(0, .ref (xa σ 0)), (1, .int x1), (2, .int x2), (3, .int x3), (4, .int x4), (5, .long x5), (7, .int x7), (8, .int x8), (9, .int x9), (10, .int x10), (11, .int x11)] [] (WM G σ) 0 0 := by
  refine b_iload X d_M_makeNode_282 10 rfl ?_
  refine b_if_lt X (tgt := 329) d_M_makeNode_284 (by decide) (fun h => absurd h c284) (fun _ => ?_)
  refine b_aload_n X d_M_makeNode_287 0 rfl rfl ?_
  refine b_iload_n X d_M_makeNode_288 1 rfl rfl ?_
  refine b_iload X d_M_makeNode_289 6 rfl ?_
  refine b_iload X d_M_makeNode_291 10 rfl ?_
  refine b_dV X cf_M_symbolAt ci_M_symbolAt ml_M_81 (ct_M_symbolAt_ G σ x1 x7 x11 n293 e293 h293) 0 rfl rfl (As := [.int x1, .int x7, .int x11]) (rest := []) rfl (Nat.le_of_ble_eq_true rfl) ⟨Nat.le_of_ble_eq_true rfl, Nat.le_of_ble_eq_true rfl⟩ ⟨Nat.le_of_ble_eq_true rfl, Nat.le_of_ble_eq_true rfl⟩ rfl rfl d_M_makeNode_293 ?_
  refine b_istore X (lv' := [(0, .ref (xa σ 0)), (1, .int x1), (2, .int x2), (3, .int x3), (4, .int x4), (5, .long x5), (7, .int x7), (8, .int x8), (9, .int x9), (10, .int x10), (11, .int x11), (12, .int (xi σ 3 n293))]) d_M_makeNode_296 (by decide) [1, 2, 3, 4, 5, 6, 7, 8, 9, 10, 11, 0] rfl ?_
  refine b_aload_n X d_M_makeNode_298 0 rfl rfl ?_
  refine b_iload X d_M_makeNode_299 11 rfl ?_
  refine b_iload X d_M_makeNode_301 4 rfl ?_
  refine b_aload_n X d_M_makeNode_303 0 rfl rfl ?_
  refine b_aload_n X d_M_makeNode_304 0 rfl rfl ?_
  refine b_get X fl_M_70 0 rfl (v := .ref (xa σ 20)) rfl d_M_makeNode_305 ?_
  refine b_aload_n X d_M_makeNode_308 0 rfl rfl ?_
  refine b_get X fl_M_132 0 rfl (v := .int (xi σ 0 6)) rfl d_M_makeNode_309 ?_
  refine b_iconst X (v := 1) d_M_makeNode_312 (by decide) ?_
  refine b_isub X d_M_makeNode_313 ?_
  refine b_lald X 20 rfl (by decide) n314 e314 h314 d_M_makeNode_314 ?_
  refine b_iload X d_M_makeNode_315 11 rfl ?_
  refine b_dV X cf_M_before ci_M_before ml_M_145 t317 0 rfl rfl (As := [.long (xl σ 20 n314), .int (xi σ 3 n293)]) (rest := [.int x4, .int (xi σ 3 n293), .ref (xa σ 0)]) rfl (Nat.le_of_ble_eq_true rfl) ⟨Nat.le_of_ble_eq_true rfl, Nat.le_of_ble_eq_true rfl⟩ ⟨Nat.le_of_ble_eq_true rfl, Nat.le_of_ble_eq_true rfl⟩ rfl rfl d_M_makeNode_317 ?_
  refine b_dV X cf_M_push ci_M_push ml_M_141 t320 0 rfl rfl (As := [.int (xi σ 3 n293), .int x4, .long r317]) (rest := []) rfl (Nat.le_of_ble_eq_true rfl) ⟨Nat.le_of_ble_eq_true rfl, Nat.le_of_ble_eq_true rfl⟩ ⟨Nat.le_of_ble_eq_true rfl, Nat.le_of_ble_eq_true rfl⟩ rfl rfl d_M_makeNode_320 ?_
  refine b_iinc X (lv' := [(0, .ref (xa σ 0)), (1, .int x1), (2, .int x2), (3, .int x3), (4, .int x4), (5, .long x5), (7, .int x7), (8, .int x8), (9, .int x9), (10, .int x10), (11, .int (x11 + (-1))), (12, .int (xi σ 3 n293))]) d_M_makeNode_323 10 rfl (v := (x11 + (-1))) rfl (by decide) [1, 2, 3, 4, 5, 6, 7, 8, 9, 10, 0, 11] rfl ?_
  refine b_goto X (tgt := 282) d_M_makeNode_326 (by decide) ?_
  refine Lb.pick (lv' := [(0, .ref (xa σ 0)), (1, .int x1), (2, .int x2), (3, .int x3), (4, .int x4), (5, .long x5), (7, .int x7), (8, .int x8), (9, .int x9), (10, .int x10), (11, .int (x11 + (-1)))]) [0, 1, 2, 3, 4, 5, 6, 7, 8, 9, 10] rfl ?_
  exact k
theorem sg_M_makeTree_0_19 {K : KX} {G : GG} {w0 : va_W} {Q : State → Prop} (X : Bd K G w0 "FirstTreesModel" c_M_makeTree 3 (some .boolean) rm_M_makeTree) (σ : St)  (q16 : Sq) (t16 : Ct y_M_makeNode c_M_makeNode 13 none rm_M_makeNode G [.ref (xa σ 0), .int 0, .int (-1), .int 0] (WM G (wi (wi σ 0 6 0) 0 5 0)) (eqp (none) (WM G (xa σ, q16)))) (k : Lb K G w0 Q 3 19 [(0, .ref (xa σ 0)), (1, .int 0)] [] (WM G (xa σ, q16)) 0 0) : Lb K G w0 Q 3 0 [(0, .ref (xa σ 0))] [] (WM G σ) 0 0 := by
  refine b_aload_n X d_M_makeTree_0 0 rfl rfl ?_
  refine b_iconst X (v := 0) d_M_makeTree_1 (by decide) ?_
  refine b_put X fl_M_132 pl_M_high 0 rfl rfl rfl (Nat.le_of_ble_eq_true rfl) (uWM_0_high G σ 0) d_M_makeTree_2 ?_
  refine b_aload_n X d_M_makeTree_5 0 rfl rfl ?_
  refine b_iconst X (v := 0) d_M_makeTree_6 (by decide) ?_
  refine b_put X fl_M_135 pl_M_madeNodes 0 rfl rfl rfl (Nat.le_of_ble_eq_true rfl) (uWM_0_madeNodes G (wi σ 0 6 0) 0) d_M_makeTree_7 ?_
  refine b_iconst X (v := 0) d_M_makeTree_10 (by decide) ?_
  refine b_istore_n X (lv' := [(0, .ref (xa σ 0)), (1, .int 0)]) d_M_makeTree_11 rfl (by decide) [1, 0] rfl ?_
  refine b_aload_n X d_M_makeTree_12 0 rfl rfl ?_
  refine b_iconst X (v := 0) d_M_makeTree_13 (by decide) ?_
  refine b_iconst X (v := (-1)) d_M_makeTree_14 (by decide) ?_
  refine b_iconst X (v := 0) d_M_makeTree_15 (by decide) ?_
  refine b_dV X cf_M_makeNode ci_M_makeNode ml_M_148 t16 0 rfl rfl (As := [.int 0, .int (-1), .int 0]) (rest := []) rfl (Nat.le_of_ble_eq_true rfl) ⟨Nat.le_of_ble_eq_true rfl, Nat.le_of_ble_eq_true rfl⟩ ⟨Nat.le_of_ble_eq_true rfl, Nat.le_of_ble_eq_true rfl⟩ rfl rfl d_M_makeTree_16 ?_
  exact k
theorem sg_M_makeTree_19_tr {K : KX} {G : GG} {w0 : va_W} {post : PostT} (X : Bd K G w0 "FirstTreesModel" c_M_makeTree 3 (some .boolean) rm_M_makeTree) (σ : St) (x1 : Int32)  (c23 : (xi σ 0 6) ≤ 0) (hp : post (some (.int 1)) (WM G σ)) : Lb K G w0 (Qe K G w0 post rm_M_makeTree) 3 19 [(0, .ref (xa σ 0)), (1, .int x1)] [] (WM G σ) 0 0 := by
  refine b_aload_n X d_M_makeTree_19 0 rfl rfl ?_
  refine b_get X fl_M_132 0 rfl (v := .int (xi σ 0 6)) rfl d_M_makeTree_20 ?_
  refine b_if_le X (tgt := 115) d_M_makeTree_23 (by decide) (fun _ => ?_) (fun h => absurd c23 h)
  refine b_iconst X (v := 1) d_M_makeTree_115 (by decide) ?_
  exact b_zret X rfl d_M_makeTree_116 hp
theorem sg_M_makeTree_19_fttt19 {K : KX} {G : GG} {w0 : va_W} {Q : State → Prop} (X : Bd K G w0 "FirstTreesModel" c_M_makeTree 3 (some .boolean) rm_M_makeTree) (σ : St) (x1 : Int32) (n44 : Nat) (q109 : Sq) (c23 : ¬ (xi σ 0 6) ≤ 0) (e44 : ((xi σ 0 6) - 1) = nI n44) (h44 : n44 < 20000) (c49 : (-100) < (xi σ 18 n44)) (c74 : ¬ (b2i ((xi σ 18 n44) < 0)) = 0) (c90 : ¬ (xi σ 0 5) = 2000) (t109 : Ct y_M_makeNode c_M_makeNode 13 none rm_M_makeNode G [.ref (xa σ 0), .int ((-1) - (xi σ 18 n44)), .int (xi σ 19 n44), .int x1] (WM G (wi σ 0 6 ((xi σ 0 6) - 1))) (eqp (none) (WM G (xa σ, q109)))) (k : Lb K G w0 Q 3 19 [(0, .ref (xa σ 0)), (1, .int x1)] [] (WM G (xa σ, q109)) 0 0) : Lb K G w0 Q 3 19 [(0, .ref (xa σ 0)), (1, .int x1)] [] (WM G σ) 0 0 := by
  refine b_aload_n X d_M_makeTree_19 0 rfl rfl ?_
  refine b_get X fl_M_132 0 rfl (v := .int (xi σ 0 6)) rfl d_M_makeTree_20 ?_
  refine b_if_le X (tgt := 115) d_M_makeTree_23 (by decide) (fun h => absurd h c23) (fun _ => ?_)
  refine b_aload_n X d_M_makeTree_26 0 rfl rfl ?_
  refine b_dup X d_M_makeTree_27 rfl ?_
  refine b_get X fl_M_132 0 rfl (v := .int (xi σ 0 6)) rfl d_M_makeTree_28 ?_
  refine b_iconst X (v := 1) d_M_makeTree_31 (by decide) ?_
  refine b_isub X d_M_makeTree_32 ?_
  refine b_put X fl_M_132 pl_M_high 0 rfl rfl rfl (Nat.le_of_ble_eq_true rfl) (uWM_0_high G σ ((xi σ 0 6) - 1)) d_M_makeTree_33 ?_
  refine b_aload_n X d_M_makeTree_36 0 rfl rfl ?_
  refine b_get X fl_M_64 0 rfl (v := .ref (xa σ 18)) rfl d_M_makeTree_37 ?_
  refine b_aload_n X d_M_makeTree_40 0 rfl rfl ?_
  refine b_get X fl_M_132 0 rfl (v := .int ((xi σ 0 6) - 1)) rfl d_M_makeTree_41 ?_
  refine b_iald X 18 rfl (by decide) n44 e44 h44 d_M_makeTree_44 ?_
  refine b_istore_n X (lv' := [(0, .ref (xa σ 0)), (1, .int x1), (2, .int (xi σ 18 n44))]) d_M_makeTree_45 rfl (by decide) [1, 2, 0] rfl ?_
  refine b_iload_n X d_M_makeTree_46 2 rfl rfl ?_
  refine b_bipush X (v := (-100)) d_M_makeTree_47 (by decide) ?_
  refine b_icmp_gt X (tgt := 70) d_M_makeTree_49 (by decide) (fun _ => ?_) (fun h => absurd c49 h)
  refine b_iload_n X d_M_makeTree_70 2 rfl rfl ?_
  refine b_dS X cf_M_isRule ci_M_isRule ml_M_85 (ct_M_isRule G (wi σ 0 6 ((xi σ 0 6) - 1)) (xi σ 18 n44)) (As := [.int (xi σ 18 n44)]) (rest := []) rfl (Nat.le_of_ble_eq_true rfl) ⟨Nat.le_of_ble_eq_true rfl, Nat.le_of_ble_eq_true rfl⟩ ⟨Nat.le_of_ble_eq_true rfl, Nat.le_of_ble_eq_true rfl⟩ rfl rfl d_M_makeTree_71 ?_
  refine b_if_ne X (tgt := 83) d_M_makeTree_74 (by decide) (fun _ => ?_) (fun h => absurd h c74)
  refine b_aload_n X d_M_makeTree_83 0 rfl rfl ?_
  refine b_get X fl_M_135 0 rfl (v := .int (xi σ 0 5)) rfl d_M_makeTree_84 ?_
  refine b_sipush X (v := 2000) d_M_makeTree_87 (by decide) ?_
  refine b_icmp_ne X (tgt := 95) d_M_makeTree_90 (by decide) (fun _ => ?_) (fun h => absurd h c90)
  refine b_aload_n X d_M_makeTree_95 0 rfl rfl ?_
  refine b_iconst X (v := (-1)) d_M_makeTree_96 (by decide) ?_
  refine b_iload_n X d_M_makeTree_97 2 rfl rfl ?_
  refine b_isub X d_M_makeTree_98 ?_
  refine b_aload_n X d_M_makeTree_99 0 rfl rfl ?_
  refine b_get X fl_M_67 0 rfl (v := .ref (xa σ 19)) rfl d_M_makeTree_100 ?_
  refine b_aload_n X d_M_makeTree_103 0 rfl rfl ?_
  refine b_get X fl_M_132 0 rfl (v := .int ((xi σ 0 6) - 1)) rfl d_M_makeTree_104 ?_
  refine b_iald X 19 rfl (by decide) n44 e44 h44 d_M_makeTree_107 ?_
  refine b_iload_n X d_M_makeTree_108 1 rfl rfl ?_
  refine b_dV X cf_M_makeNode ci_M_makeNode ml_M_148 t109 0 rfl rfl (As := [.int ((-1) - (xi σ 18 n44)), .int (xi σ 19 n44), .int x1]) (rest := []) rfl (Nat.le_of_ble_eq_true rfl) ⟨Nat.le_of_ble_eq_true rfl, Nat.le_of_ble_eq_true rfl⟩ ⟨Nat.le_of_ble_eq_true rfl, Nat.le_of_ble_eq_true rfl⟩ rfl rfl d_M_makeTree_109 ?_
  refine b_goto X (tgt := 19) d_M_makeTree_112 (by decide) ?_
  refine Lb.pick (lv' := [(0, .ref (xa σ 0)), (1, .int x1)]) [0, 1] rfl ?_
  exact k
theorem sg_M_makeTree_19_fttfr {K : KX} {G : GG} {w0 : va_W} {post : PostT} (X : Bd K G w0 "FirstTreesModel" c_M_makeTree 3 (some .boolean) rm_M_makeTree) (σ : St) (x1 : Int32) (n44 : Nat) (c23 : ¬ (xi σ 0 6) ≤ 0) (e44 : ((xi σ 0 6) - 1) = nI n44) (h44 : n44 < 20000) (c49 : (-100) < (xi σ 18 n44)) (c74 : ¬ (b2i ((xi σ 18 n44) < 0)) = 0) (c90 : (xi σ 0 5) = 2000) (hp : post (some (.int 0)) (WM G (wi σ 0 6 ((xi σ 0 6) - 1)))) : Lb K G w0 (Qe K G w0 post rm_M_makeTree) 3 19 [(0, .ref (xa σ 0)), (1, .int x1)] [] (WM G σ) 0 0 := by
  refine b_aload_n X d_M_makeTree_19 0 rfl rfl ?_
  refine b_get X fl_M_132 0 rfl (v := .int (xi σ 0 6)) rfl d_M_makeTree_20 ?_
  refine b_if_le X (tgt := 115) d_M_makeTree_23 (by decide) (fun h => absurd h c23) (fun _ => ?_)
  refine b_aload_n X d_M_makeTree_26 0 rfl rfl ?_
  refine b_dup X d_M_makeTree_27 rfl ?_
  refine b_get X fl_M_132 0 rfl (v := .int (xi σ 0 6)) rfl d_M_makeTree_28 ?_
  refine b_iconst X (v := 1) d_M_makeTree_31 (by decide) ?_
  refine b_isub X d_M_makeTree_32 ?_
  refine b_put X fl_M_132 pl_M_high 0 rfl rfl rfl (Nat.le_of_ble_eq_true rfl) (uWM_0_high G σ ((xi σ 0 6) - 1)) d_M_makeTree_33 ?_
  refine b_aload_n X d_M_makeTree_36 0 rfl rfl ?_
  refine b_get X fl_M_64 0 rfl (v := .ref (xa σ 18)) rfl d_M_makeTree_37 ?_
  refine b_aload_n X d_M_makeTree_40 0 rfl rfl ?_
  refine b_get X fl_M_132 0 rfl (v := .int ((xi σ 0 6) - 1)) rfl d_M_makeTree_41 ?_
  refine b_iald X 18 rfl (by decide) n44 e44 h44 d_M_makeTree_44 ?_
  refine b_istore_n X (lv' := [(0, .ref (xa σ 0)), (1, .int x1), (2, .int (xi σ 18 n44))]) d_M_makeTree_45 rfl (by decide) [1, 2, 0] rfl ?_
  refine b_iload_n X d_M_makeTree_46 2 rfl rfl ?_
  refine b_bipush X (v := (-100)) d_M_makeTree_47 (by decide) ?_
  refine b_icmp_gt X (tgt := 70) d_M_makeTree_49 (by decide) (fun _ => ?_) (fun h => absurd c49 h)
  refine b_iload_n X d_M_makeTree_70 2 rfl rfl ?_
  refine b_dS X cf_M_isRule ci_M_isRule ml_M_85 (ct_M_isRule G (wi σ 0 6 ((xi σ 0 6) - 1)) (xi σ 18 n44)) (As := [.int (xi σ 18 n44)]) (rest := []) rfl (Nat.le_of_ble_eq_true rfl) ⟨Nat.le_of_ble_eq_true rfl, Nat.le_of_ble_eq_true rfl⟩ ⟨Nat.le_of_ble_eq_true rfl, Nat.le_of_ble_eq_true rfl⟩ rfl rfl d_M_makeTree_71 ?_
  refine b_if_ne X (tgt := 83) d_M_makeTree_74 (by decide) (fun _ => ?_) (fun h => absurd h c74)
  refine b_aload_n X d_M_makeTree_83 0 rfl rfl ?_
  refine b_get X fl_M_135 0 rfl (v := .int (xi σ 0 5)) rfl d_M_makeTree_84 ?_
  refine b_sipush X (v := 2000) d_M_makeTree_87 (by decide) ?_
  refine b_icmp_ne X (tgt := 95) d_M_makeTree_90 (by decide) (fun h => absurd c90 h) (fun _ => ?_)
  refine b_iconst X (v := 0) d_M_makeTree_93 (by decide) ?_
  exact b_zret X rfl d_M_makeTree_94 hp
theorem sg_M_makeTree_19_ftf19 {K : KX} {G : GG} {w0 : va_W} {Q : State → Prop} (X : Bd K G w0 "FirstTreesModel" c_M_makeTree 3 (some .boolean) rm_M_makeTree) (σ : St) (x1 : Int32) (n44 : Nat) (c23 : ¬ (xi σ 0 6) ≤ 0) (e44 : ((xi σ 0 6) - 1) = nI n44) (h44 : n44 < 20000) (c49 : (-100) < (xi σ 18 n44)) (c74 : (b2i ((xi σ 18 n44) < 0)) = 0) (k : Lb K G w0 Q 3 19 [(0, .ref (xa σ 0)), (1, .int (x1 + 1))] [] (WM G (wi σ 0 6 ((xi σ 0 6) - 1))) 0 0) : Lb K G w0 Q 3 19 [(0, .ref (xa σ 0)), (1, .int x1)] [] (WM G σ) 0 0 := by
  refine b_aload_n X d_M_makeTree_19 0 rfl rfl ?_
  refine b_get X fl_M_132 0 rfl (v := .int (xi σ 0 6)) rfl d_M_makeTree_20 ?_
  refine b_if_le X (tgt := 115) d_M_makeTree_23 (by decide) (fun h => absurd h c23) (fun _ => ?_)
  refine b_aload_n X d_M_makeTree_26 0 rfl rfl ?_
  refine b_dup X d_M_makeTree_27 rfl ?_
  refine b_get X fl_M_132 0 rfl (v := .int (xi σ 0 6)) rfl d_M_makeTree_28 ?_
  refine b_iconst X (v := 1) d_M_makeTree_31 (by decide) ?_
  refine b_isub X d_M_makeTree_32 ?_
  refine b_put X fl_M_132 pl_M_high 0 rfl rfl rfl (Nat.le_of_ble_eq_true rfl) (uWM_0_high G σ ((xi σ 0 6) - 1)) d_M_makeTree_33 ?_
  refine b_aload_n X d_M_makeTree_36 0 rfl rfl ?_
  refine b_get X fl_M_64 0 rfl (v := .ref (xa σ 18)) rfl d_M_makeTree_37 ?_
  refine b_aload_n X d_M_makeTree_40 0 rfl rfl ?_
  refine b_get X fl_M_132 0 rfl (v := .int ((xi σ 0 6) - 1)) rfl d_M_makeTree_41 ?_
  refine b_iald X 18 rfl (by decide) n44 e44 h44 d_M_makeTree_44 ?_
  refine b_istore_n X (lv' := [(0, .ref (xa σ 0)), (1, .int x1), (2, .int (xi σ 18 n44))]) d_M_makeTree_45 rfl (by decide) [1, 2, 0] rfl ?_
  refine b_iload_n X d_M_makeTree_46 2 rfl rfl ?_
  refine b_bipush X (v := (-100)) d_M_makeTree_47 (by decide) ?_
  refine b_icmp_gt X (tgt := 70) d_M_makeTree_49 (by decide) (fun _ => ?_) (fun h => absurd c49 h)
  refine b_iload_n X d_M_makeTree_70 2 rfl rfl ?_
  refine b_dS X cf_M_isRule ci_M_isRule ml_M_85 (ct_M_isRule G (wi σ 0 6 ((xi σ 0 6) - 1)) (xi σ 18 n44)) (As := [.int (xi σ 18 n44)]) (rest := []) rfl (Nat.le_of_ble_eq_true rfl) ⟨Nat.le_of_ble_eq_true rfl, Nat.le_of_ble_eq_true rfl⟩ ⟨Nat.le_of_ble_eq_true rfl, Nat.le_of_ble_eq_true rfl⟩ rfl rfl d_M_makeTree_71 ?_
  refine b_if_ne X (tgt := 83) d_M_makeTree_74 (by decide) (fun h => absurd c74 h) (fun _ => ?_)
  refine b_iinc X (lv' := [(0, .ref (xa σ 0)), (1, .int (x1 + 1)), (2, .int (xi σ 18 n44))]) d_M_makeTree_77 1 rfl (v := (x1 + 1)) rfl (by decide) [1, 0, 2] rfl ?_
  refine b_goto X (tgt := 112) d_M_makeTree_80 (by decide) ?_
  refine b_goto X (tgt := 19) d_M_makeTree_112 (by decide) ?_
  refine Lb.pick (lv' := [(0, .ref (xa σ 0)), (1, .int (x1 + 1))]) [0, 1] rfl ?_
  exact k
theorem sg_M_makeTree_19_ff19 {K : KX} {G : GG} {w0 : va_W} {Q : State → Prop} (X : Bd K G w0 "FirstTreesModel" c_M_makeTree 3 (some .boolean) rm_M_makeTree) (σ : St) (x1 : Int32) (n44 : Nat) (n66 : Nat) (c23 : ¬ (xi σ 0 6) ≤ 0) (e44 : ((xi σ 0 6) - 1) = nI n44) (h44 : n44 < 20000) (c49 : ¬ (-100) < (xi σ 18 n44)) (e66 : ((7 * ((-100) - (xi σ 18 n44))) + 3) = nI n66) (h66 : n66 < 14007) (k : Lb K G w0 Q 3 19 [(0, .ref (xa σ 0)), (1, .int x1)] [] (WM G (wi (wi σ 0 6 ((xi σ 0 6) - 1)) 17 n66 x1)) 0 0) : Lb K G w0 Q 3 19 [(0, .ref (xa σ 0)), (1, .int x1)] [] (WM G σ) 0 0 := by
  refine b_aload_n X d_M_makeTree_19 0 rfl rfl ?_
  refine b_get X fl_M_132 0 rfl (v := .int (xi σ 0 6)) rfl d_M_makeTree_20 ?_
  refine b_if_le X (tgt := 115) d_M_makeTree_23 (by decide) (fun h => absurd h c23) (fun _ => ?_)
  refine b_aload_n X d_M_makeTree_26 0 rfl rfl ?_
  refine b_dup X d_M_makeTree_27 rfl ?_
  refine b_get X fl_M_132 0 rfl (v := .int (xi σ 0 6)) rfl d_M_makeTree_28 ?_
  refine b_iconst X (v := 1) d_M_makeTree_31 (by decide) ?_
  refine b_isub X d_M_makeTree_32 ?_
  refine b_put X fl_M_132 pl_M_high 0 rfl rfl rfl (Nat.le_of_ble_eq_true rfl) (uWM_0_high G σ ((xi σ 0 6) - 1)) d_M_makeTree_33 ?_
  refine b_aload_n X d_M_makeTree_36 0 rfl rfl ?_
  refine b_get X fl_M_64 0 rfl (v := .ref (xa σ 18)) rfl d_M_makeTree_37 ?_
  refine b_aload_n X d_M_makeTree_40 0 rfl rfl ?_
  refine b_get X fl_M_132 0 rfl (v := .int ((xi σ 0 6) - 1)) rfl d_M_makeTree_41 ?_
  refine b_iald X 18 rfl (by decide) n44 e44 h44 d_M_makeTree_44 ?_
  refine b_istore_n X (lv' := [(0, .ref (xa σ 0)), (1, .int x1), (2, .int (xi σ 18 n44))]) d_M_makeTree_45 rfl (by decide) [1, 2, 0] rfl ?_
  refine b_iload_n X d_M_makeTree_46 2 rfl rfl ?_
  refine b_bipush X (v := (-100)) d_M_makeTree_47 (by decide) ?_
  refine b_icmp_gt X (tgt := 70) d_M_makeTree_49 (by decide) (fun h => absurd h c49) (fun _ => ?_)
  refine b_aload_n X d_M_makeTree_52 0 rfl rfl ?_
  refine b_get X fl_M_61 0 rfl (v := .ref (xa σ 17)) rfl d_M_makeTree_53 ?_
  refine b_bipush X (v := 7) d_M_makeTree_56 (by decide) ?_
  refine b_bipush X (v := (-100)) d_M_makeTree_58 (by decide) ?_
  refine b_iload_n X d_M_makeTree_60 2 rfl rfl ?_
  refine b_isub X d_M_makeTree_61 ?_
  refine b_imul X d_M_makeTree_62 ?_
  refine b_iconst X (v := 3) d_M_makeTree_63 (by decide) ?_
  refine b_iadd X d_M_makeTree_64 ?_
  refine b_iload_n X d_M_makeTree_65 1 rfl rfl ?_
  refine b_iast X 17 rfl (by decide) n66 e66 h66 (uWM_17 G (wi σ 0 6 ((xi σ 0 6) - 1)) n66 x1) d_M_makeTree_66 ?_
  refine b_goto X (tgt := 112) d_M_makeTree_67 (by decide) ?_
  refine b_goto X (tgt := 19) d_M_makeTree_112 (by decide) ?_
  refine Lb.pick (lv' := [(0, .ref (xa σ 0)), (1, .int x1)]) [0, 1] rfl ?_
  exact k
theorem sg_M_parse_0_tr {K : KX} {G : GG} {w0 : va_W} {post : PostT} (X : Bd K G w0 "FirstTreesModel" c_M_parse 3 (some .int) rm_M_parse) (σ : St)  (r2 : Int32) (q2 : Sq) (t2 : Ct y_M_faultOf c_M_faultOf 4 (some .int) rm_M_faultOf G [.ref (xa σ 0)] (WM G σ) (eqp (some (.int r2)) (WM G (xa σ, q2)))) (c5 : ¬ r2 = 0) (hp : post (some (.int 0)) (WM G (wi (xa σ, q2) 0 0 1))) : Lb K G w0 (Qe K G w0 post rm_M_parse) 3 0 [(0, .ref (xa σ 0))] [] (WM G σ) 0 0 := by
  refine b_aload_n X d_M_parse_0 0 rfl rfl ?_
  refine b_aload_n X d_M_parse_1 0 rfl rfl ?_
  refine b_dV X cf_M_faultOf ci_M_faultOf ml_M_151 t2 0 rfl rfl (As := []) (rest := [.ref (xa σ 0)]) rfl (Nat.le_of_ble_eq_true rfl) ⟨Nat.le_of_ble_eq_true rfl, Nat.le_of_ble_eq_true rfl⟩ ⟨Nat.le_of_ble_eq_true rfl, Nat.le_of_ble_eq_true rfl⟩ rfl rfl d_M_parse_2 ?_
  refine b_if_ne X (tgt := 12) d_M_parse_5 (by decide) (fun _ => ?_) (fun h => absurd h c5)
  refine b_iconst X (v := 1) d_M_parse_12 (by decide) ?_
  refine b_put X fl_M_73 pl_M_thrown 0 rfl rfl rfl (Nat.le_of_ble_eq_true rfl) (uWM_0_thrown G (xa σ, q2) 1) d_M_parse_13 ?_
  refine b_aload_n X d_M_parse_16 0 rfl rfl ?_
  refine b_get X fl_M_73 0 rfl (v := .int 1) rfl d_M_parse_17 ?_
  refine b_if_le X (tgt := 25) d_M_parse_20 (by decide) (fun h => absurd h (by decide)) (fun _ => ?_)
  refine b_iconst X (v := 0) d_M_parse_23 (by decide) ?_
  exact b_iret X d_M_parse_24 hp
theorem sg_M_parse_0_fttr {K : KX} {G : GG} {w0 : va_W} {post : PostT} (X : Bd K G w0 "FirstTreesModel" c_M_parse 3 (some .int) rm_M_parse) (σ : St)  (r2 : Int32) (q2 : Sq) (q26 : Sq) (q55 : Sq) (n66 : Nat) (r71 : Int32) (q71 : Sq) (t2 : Ct y_M_faultOf c_M_faultOf 4 (some .int) rm_M_faultOf G [.ref (xa σ 0)] (WM G σ) (eqp (some (.int r2)) (WM G (xa σ, q2)))) (c5 : r2 = 0) (t26 : Ct y_M_findPlaces c_M_findPlaces 8 none rm_M_findPlaces G [.ref (xa σ 0)] (WM G (wi (xa σ, q2) 0 0 0)) (eqp (none) (WM G (xa σ, q26)))) (c43 : ¬ ((shrL (xl (xa σ, q26) 8 0) (xi (xa σ, q26) 0 3)) &&& 1) = 0) (t55 : Ct y_M_findWays c_M_findWays 7 none rm_M_findWays G [.ref (xa σ 0)] (WM G (xa σ, q26)) (eqp (none) (WM G (xa σ, q55)))) (e66 : (xi (xa σ, q55) 0 3) = nI n66) (h66 : n66 < 59536) (t71 : Ct y_M_makeTree c_M_makeTree 3 (some .boolean) rm_M_makeTree G [.ref (xa σ 0)] (WM G (xa σ, q55)) (eqp (some (.int r71)) (WM G (xa σ, q71)))) (c74 : r71 = 0) (hp : post (some (.int 0)) (WM G (wi (xa σ, q71) 0 0 2))) : Lb K G w0 (Qe K G w0 post rm_M_parse) 3 0 [(0, .ref (xa σ 0))] [] (WM G σ) 0 0 := by
  refine b_aload_n X d_M_parse_0 0 rfl rfl ?_
  refine b_aload_n X d_M_parse_1 0 rfl rfl ?_
  refine b_dV X cf_M_faultOf ci_M_faultOf ml_M_151 t2 0 rfl rfl (As := []) (rest := [.ref (xa σ 0)]) rfl (Nat.le_of_ble_eq_true rfl) ⟨Nat.le_of_ble_eq_true rfl, Nat.le_of_ble_eq_true rfl⟩ ⟨Nat.le_of_ble_eq_true rfl, Nat.le_of_ble_eq_true rfl⟩ rfl rfl d_M_parse_2 ?_
  refine b_if_ne X (tgt := 12) d_M_parse_5 (by decide) (fun h => absurd c5 h) (fun _ => ?_)
  refine b_iconst X (v := 0) d_M_parse_8 (by decide) ?_
  refine b_goto X (tgt := 13) d_M_parse_9 (by decide) ?_
  refine b_put X fl_M_73 pl_M_thrown 0 rfl rfl rfl (Nat.le_of_ble_eq_true rfl) (uWM_0_thrown G (xa σ, q2) 0) d_M_parse_13 ?_
  refine b_aload_n X d_M_parse_16 0 rfl rfl ?_
  refine b_get X fl_M_73 0 rfl (v := .int 0) rfl d_M_parse_17 ?_
  refine b_if_le X (tgt := 25) d_M_parse_20 (by decide) (fun _ => ?_) (fun h => absurd h (by decide))
  refine b_aload_n X d_M_parse_25 0 rfl rfl ?_
  refine b_dV X cf_M_findPlaces ci_M_findPlaces ml_M_155 t26 0 rfl rfl (As := []) (rest := []) rfl (Nat.le_of_ble_eq_true rfl) ⟨Nat.le_of_ble_eq_true rfl, Nat.le_of_ble_eq_true rfl⟩ ⟨Nat.le_of_ble_eq_true rfl, Nat.le_of_ble_eq_true rfl⟩ rfl rfl d_M_parse_26 ?_
  refine b_aload_n X d_M_parse_29 0 rfl rfl ?_
  refine b_get X fl_M_32 0 rfl (v := .ref (xa σ 8)) rfl d_M_parse_30 ?_
  refine b_iconst X (v := 0) d_M_parse_33 (by decide) ?_
  refine b_lald X 8 rfl (by decide) 0 (by decide) (by decide) d_M_parse_34 ?_
  refine b_aload_n X d_M_parse_35 0 rfl rfl ?_
  refine b_get X fl_M_105 0 rfl (v := .int (xi (xa σ, q26) 0 3)) rfl d_M_parse_36 ?_
  refine b_lshr X (v := (shrL (xl (xa σ, q26) 8 0) (xi (xa σ, q26) 0 3))) d_M_parse_39 rfl ?_
  refine b_lconst X (v := 1) d_M_parse_40 rfl ?_
  refine b_land X d_M_parse_41 ?_
  refine b_lconst X (v := 0) d_M_parse_42 rfl ?_
  refine b_l_ne X (tgt := 54) d_M_parse_43 d_M_parse_44 (by decide) (fun _ => ?_) (fun h => absurd h c43)
  refine b_aload_n X d_M_parse_54 0 rfl rfl ?_
  refine b_dV X cf_M_findWays ci_M_findWays ml_M_161 t55 0 rfl rfl (As := []) (rest := []) rfl (Nat.le_of_ble_eq_true rfl) ⟨Nat.le_of_ble_eq_true rfl, Nat.le_of_ble_eq_true rfl⟩ ⟨Nat.le_of_ble_eq_true rfl, Nat.le_of_ble_eq_true rfl⟩ rfl rfl d_M_parse_55 ?_
  refine b_aload_n X d_M_parse_58 0 rfl rfl ?_
  refine b_get X fl_M_43 0 rfl (v := .ref (xa σ 11)) rfl d_M_parse_59 ?_
  refine b_aload_n X d_M_parse_62 0 rfl rfl ?_
  refine b_get X fl_M_105 0 rfl (v := .int (xi (xa σ, q55) 0 3)) rfl d_M_parse_63 ?_
  refine b_lald X 11 rfl (by decide) n66 e66 h66 d_M_parse_66 ?_
  refine b_l2i X (v := (Int64.toInt32 (xl (xa σ, q55) 11 n66))) d_M_parse_67 rfl ?_
  refine b_istore_n X (lv' := [(0, .ref (xa σ 0)), (1, .int (Int64.toInt32 (xl (xa σ, q55) 11 n66)))]) d_M_parse_68 rfl (by decide) [1, 0] rfl ?_
  refine b_aload_n X d_M_parse_69 0 rfl rfl ?_
  refine b_aload_n X d_M_parse_70 0 rfl rfl ?_
  refine b_dV X cf_M_makeTree ci_M_makeTree ml_M_164 t71 0 rfl rfl (As := []) (rest := [.ref (xa σ 0)]) rfl (Nat.le_of_ble_eq_true rfl) ⟨Nat.le_of_ble_eq_true rfl, Nat.le_of_ble_eq_true rfl⟩ ⟨Nat.le_of_ble_eq_true rfl, Nat.le_of_ble_eq_true rfl⟩ rfl rfl d_M_parse_71 ?_
  refine b_if_eq X (tgt := 81) d_M_parse_74 (by decide) (fun _ => ?_) (fun h => absurd c74 h)
  refine b_iconst X (v := 2) d_M_parse_81 (by decide) ?_
  refine b_put X fl_M_73 pl_M_thrown 0 rfl rfl rfl (Nat.le_of_ble_eq_true rfl) (uWM_0_thrown G (xa σ, q71) 2) d_M_parse_82 ?_
  refine b_aload_n X d_M_parse_85 0 rfl rfl ?_
  refine b_get X fl_M_73 0 rfl (v := .int 2) rfl d_M_parse_86 ?_
  refine b_if_le X (tgt := 94) d_M_parse_89 (by decide) (fun h => absurd h (by decide)) (fun _ => ?_)
  refine b_iconst X (v := 0) d_M_parse_92 (by decide) ?_
  exact b_iret X d_M_parse_93 hp
theorem sg_M_parse_0_ftf104 {K : KX} {G : GG} {w0 : va_W} {Q : State → Prop} (X : Bd K G w0 "FirstTreesModel" c_M_parse 3 (some .int) rm_M_parse) (σ : St)  (r2 : Int32) (q2 : Sq) (q26 : Sq) (q55 : Sq) (n66 : Nat) (r71 : Int32) (q71 : Sq) (t2 : Ct y_M_faultOf c_M_faultOf 4 (some .int) rm_M_faultOf G [.ref (xa σ 0)] (WM G σ) (eqp (some (.int r2)) (WM G (xa σ, q2)))) (c5 : r2 = 0) (t26 : Ct y_M_findPlaces c_M_findPlaces 8 none rm_M_findPlaces G [.ref (xa σ 0)] (WM G (wi (xa σ, q2) 0 0 0)) (eqp (none) (WM G (xa σ, q26)))) (c43 : ¬ ((shrL (xl (xa σ, q26) 8 0) (xi (xa σ, q26) 0 3)) &&& 1) = 0) (t55 : Ct y_M_findWays c_M_findWays 7 none rm_M_findWays G [.ref (xa σ 0)] (WM G (xa σ, q26)) (eqp (none) (WM G (xa σ, q55)))) (e66 : (xi (xa σ, q55) 0 3) = nI n66) (h66 : n66 < 59536) (t71 : Ct y_M_makeTree c_M_makeTree 3 (some .boolean) rm_M_makeTree G [.ref (xa σ 0)] (WM G (xa σ, q55)) (eqp (some (.int r71)) (WM G (xa σ, q71)))) (c74 : ¬ r71 = 0) (k : Lb K G w0 Q 3 104 [(0, .ref (xa σ 0)), (1, .int (Int64.toInt32 (xl (xa σ, q55) 11 n66))), (2, .int 0)] [] (WM G (wi (wi (xa σ, q71) 0 0 0) 0 4 (xi (xa σ, q71) 0 5))) 0 0) : Lb K G w0 Q 3 0 [(0, .ref (xa σ 0))] [] (WM G σ) 0 0 := by
  refine b_aload_n X d_M_parse_0 0 rfl rfl ?_
  refine b_aload_n X d_M_parse_1 0 rfl rfl ?_
  refine b_dV X cf_M_faultOf ci_M_faultOf ml_M_151 t2 0 rfl rfl (As := []) (rest := [.ref (xa σ 0)]) rfl (Nat.le_of_ble_eq_true rfl) ⟨Nat.le_of_ble_eq_true rfl, Nat.le_of_ble_eq_true rfl⟩ ⟨Nat.le_of_ble_eq_true rfl, Nat.le_of_ble_eq_true rfl⟩ rfl rfl d_M_parse_2 ?_
  refine b_if_ne X (tgt := 12) d_M_parse_5 (by decide) (fun h => absurd c5 h) (fun _ => ?_)
  refine b_iconst X (v := 0) d_M_parse_8 (by decide) ?_
  refine b_goto X (tgt := 13) d_M_parse_9 (by decide) ?_
  refine b_put X fl_M_73 pl_M_thrown 0 rfl rfl rfl (Nat.le_of_ble_eq_true rfl) (uWM_0_thrown G (xa σ, q2) 0) d_M_parse_13 ?_
  refine b_aload_n X d_M_parse_16 0 rfl rfl ?_
  refine b_get X fl_M_73 0 rfl (v := .int 0) rfl d_M_parse_17 ?_
  refine b_if_le X (tgt := 25) d_M_parse_20 (by decide) (fun _ => ?_) (fun h => absurd h (by decide))
  refine b_aload_n X d_M_parse_25 0 rfl rfl ?_
  refine b_dV X cf_M_findPlaces ci_M_findPlaces ml_M_155 t26 0 rfl rfl (As := []) (rest := []) rfl (Nat.le_of_ble_eq_true rfl) ⟨Nat.le_of_ble_eq_true rfl, Nat.le_of_ble_eq_true rfl⟩ ⟨Nat.le_of_ble_eq_true rfl, Nat.le_of_ble_eq_true rfl⟩ rfl rfl d_M_parse_26 ?_
  refine b_aload_n X d_M_parse_29 0 rfl rfl ?_
  refine b_get X fl_M_32 0 rfl (v := .ref (xa σ 8)) rfl d_M_parse_30 ?_
  refine b_iconst X (v := 0) d_M_parse_33 (by decide) ?_
  refine b_lald X 8 rfl (by decide) 0 (by decide) (by decide) d_M_parse_34 ?_
  refine b_aload_n X d_M_parse_35 0 rfl rfl ?_
  refine b_get X fl_M_105 0 rfl (v := .int (xi (xa σ, q26) 0 3)) rfl d_M_parse_36 ?_
  refine b_lshr X (v := (shrL (xl (xa σ, q26) 8 0) (xi (xa σ, q26) 0 3))) d_M_parse_39 rfl ?_
  refine b_lconst X (v := 1) d_M_parse_40 rfl ?_
  refine b_land X d_M_parse_41 ?_
  refine b_lconst X (v := 0) d_M_parse_42 rfl ?_
  refine b_l_ne X (tgt := 54) d_M_parse_43 d_M_parse_44 (by decide) (fun _ => ?_) (fun h => absurd h c43)
  refine b_aload_n X d_M_parse_54 0 rfl rfl ?_
  refine b_dV X cf_M_findWays ci_M_findWays ml_M_161 t55 0 rfl rfl (As := []) (rest := []) rfl (Nat.le_of_ble_eq_true rfl) ⟨Nat.le_of_ble_eq_true rfl, Nat.le_of_ble_eq_true rfl⟩ ⟨Nat.le_of_ble_eq_true rfl, Nat.le_of_ble_eq_true rfl⟩ rfl rfl d_M_parse_55 ?_
  refine b_aload_n X d_M_parse_58 0 rfl rfl ?_
  refine b_get X fl_M_43 0 rfl (v := .ref (xa σ 11)) rfl d_M_parse_59 ?_
  refine b_aload_n X d_M_parse_62 0 rfl rfl ?_
  refine b_get X fl_M_105 0 rfl (v := .int (xi (xa σ, q55) 0 3)) rfl d_M_parse_63 ?_
  refine b_lald X 11 rfl (by decide) n66 e66 h66 d_M_parse_66 ?_
  refine b_l2i X (v := (Int64.toInt32 (xl (xa σ, q55) 11 n66))) d_M_parse_67 rfl ?_
  refine b_istore_n X (lv' := [(0, .ref (xa σ 0)), (1, .int (Int64.toInt32 (xl (xa σ, q55) 11 n66)))]) d_M_parse_68 rfl (by decide) [1, 0] rfl ?_
  refine b_aload_n X d_M_parse_69 0 rfl rfl ?_
  refine b_aload_n X d_M_parse_70 0 rfl rfl ?_
  refine b_dV X cf_M_makeTree ci_M_makeTree ml_M_164 t71 0 rfl rfl (As := []) (rest := [.ref (xa σ 0)]) rfl (Nat.le_of_ble_eq_true rfl) ⟨Nat.le_of_ble_eq_true rfl, Nat.le_of_ble_eq_true rfl⟩ ⟨Nat.le_of_ble_eq_true rfl, Nat.le_of_ble_eq_true rfl⟩ rfl rfl d_M_parse_71 ?_
  refine b_if_eq X (tgt := 81) d_M_parse_74 (by decide) (fun h => absurd h c74) (fun _ => ?_)
  refine b_iconst X (v := 0) d_M_parse_77 (by decide) ?_
  refine b_goto X (tgt := 82) d_M_parse_78 (by decide) ?_
  refine b_put X fl_M_73 pl_M_thrown 0 rfl rfl rfl (Nat.le_of_ble_eq_true rfl) (uWM_0_thrown G (xa σ, q71) 0) d_M_parse_82 ?_
  refine b_aload_n X d_M_parse_85 0 rfl rfl ?_
  refine b_get X fl_M_73 0 rfl (v := .int 0) rfl d_M_parse_86 ?_
  refine b_if_le X (tgt := 94) d_M_parse_89 (by decide) (fun _ => ?_) (fun h => absurd h (by decide))
  refine b_aload_n X d_M_parse_94 0 rfl rfl ?_
  refine b_aload_n X d_M_parse_95 0 rfl rfl ?_
  refine b_get X fl_M_135 0 rfl (v := .int (xi (xa σ, q71) 0 5)) rfl d_M_parse_96 ?_
  refine b_put X fl_M_158 pl_M_nodes 0 rfl rfl rfl (Nat.le_of_ble_eq_true rfl) (uWM_0_nodes G (wi (xa σ, q71) 0 0 0) (xi (xa σ, q71) 0 5)) d_M_parse_99 ?_
  refine b_iconst X (v := 0) d_M_parse_102 (by decide) ?_
  refine b_istore_n X (lv' := [(0, .ref (xa σ 0)), (1, .int (Int64.toInt32 (xl (xa σ, q55) 11 n66))), (2, .int 0)]) d_M_parse_103 rfl (by decide) [1, 2, 0] rfl ?_
  exact k
theorem sg_M_parse_0_ffr {K : KX} {G : GG} {w0 : va_W} {post : PostT} (X : Bd K G w0 "FirstTreesModel" c_M_parse 3 (some .int) rm_M_parse) (σ : St)  (r2 : Int32) (q2 : Sq) (q26 : Sq) (t2 : Ct y_M_faultOf c_M_faultOf 4 (some .int) rm_M_faultOf G [.ref (xa σ 0)] (WM G σ) (eqp (some (.int r2)) (WM G (xa σ, q2)))) (c5 : r2 = 0) (t26 : Ct y_M_findPlaces c_M_findPlaces 8 none rm_M_findPlaces G [.ref (xa σ 0)] (WM G (wi (xa σ, q2) 0 0 0)) (eqp (none) (WM G (xa σ, q26)))) (c43 : ((shrL (xl (xa σ, q26) 8 0) (xi (xa σ, q26) 0 3)) &&& 1) = 0) (hp : post (some (.int 0)) (WM G (wi (xa σ, q26) 0 4 0))) : Lb K G w0 (Qe K G w0 post rm_M_parse) 3 0 [(0, .ref (xa σ 0))] [] (WM G σ) 0 0 := by
  refine b_aload_n X d_M_parse_0 0 rfl rfl ?_
  refine b_aload_n X d_M_parse_1 0 rfl rfl ?_
  refine b_dV X cf_M_faultOf ci_M_faultOf ml_M_151 t2 0 rfl rfl (As := []) (rest := [.ref (xa σ 0)]) rfl (Nat.le_of_ble_eq_true rfl) ⟨Nat.le_of_ble_eq_true rfl, Nat.le_of_ble_eq_true rfl⟩ ⟨Nat.le_of_ble_eq_true rfl, Nat.le_of_ble_eq_true rfl⟩ rfl rfl d_M_parse_2 ?_
  refine b_if_ne X (tgt := 12) d_M_parse_5 (by decide) (fun h => absurd c5 h) (fun _ => ?_)
  refine b_iconst X (v := 0) d_M_parse_8 (by decide) ?_
  refine b_goto X (tgt := 13) d_M_parse_9 (by decide) ?_
  refine b_put X fl_M_73 pl_M_thrown 0 rfl rfl rfl (Nat.le_of_ble_eq_true rfl) (uWM_0_thrown G (xa σ, q2) 0) d_M_parse_13 ?_
  refine b_aload_n X d_M_parse_16 0 rfl rfl ?_
  refine b_get X fl_M_73 0 rfl (v := .int 0) rfl d_M_parse_17 ?_
  refine b_if_le X (tgt := 25) d_M_parse_20 (by decide) (fun _ => ?_) (fun h => absurd h (by decide))
  refine b_aload_n X d_M_parse_25 0 rfl rfl ?_
  refine b_dV X cf_M_findPlaces ci_M_findPlaces ml_M_155 t26 0 rfl rfl (As := []) (rest := []) rfl (Nat.le_of_ble_eq_true rfl) ⟨Nat.le_of_ble_eq_true rfl, Nat.le_of_ble_eq_true rfl⟩ ⟨Nat.le_of_ble_eq_true rfl, Nat.le_of_ble_eq_true rfl⟩ rfl rfl d_M_parse_26 ?_
  refine b_aload_n X d_M_parse_29 0 rfl rfl ?_
  refine b_get X fl_M_32 0 rfl (v := .ref (xa σ 8)) rfl d_M_parse_30 ?_
  refine b_iconst X (v := 0) d_M_parse_33 (by decide) ?_
  refine b_lald X 8 rfl (by decide) 0 (by decide) (by decide) d_M_parse_34 ?_
  refine b_aload_n X d_M_parse_35 0 rfl rfl ?_
  refine b_get X fl_M_105 0 rfl (v := .int (xi (xa σ, q26) 0 3)) rfl d_M_parse_36 ?_
  refine b_lshr X (v := (shrL (xl (xa σ, q26) 8 0) (xi (xa σ, q26) 0 3))) d_M_parse_39 rfl ?_
  refine b_lconst X (v := 1) d_M_parse_40 rfl ?_
  refine b_land X d_M_parse_41 ?_
  refine b_lconst X (v := 0) d_M_parse_42 rfl ?_
  refine b_l_ne X (tgt := 54) d_M_parse_43 d_M_parse_44 (by decide) (fun h => absurd c43 h) (fun _ => ?_)
  refine b_aload_n X d_M_parse_47 0 rfl rfl ?_
  refine b_iconst X (v := 0) d_M_parse_48 (by decide) ?_
  refine b_put X fl_M_158 pl_M_nodes 0 rfl rfl rfl (Nat.le_of_ble_eq_true rfl) (uWM_0_nodes G (xa σ, q26) 0) d_M_parse_49 ?_
  refine b_iconst X (v := 0) d_M_parse_52 (by decide) ?_
  exact b_iret X d_M_parse_53 hp
theorem sg_M_parse_104_tr {K : KX} {G : GG} {w0 : va_W} {post : PostT} (X : Bd K G w0 "FirstTreesModel" c_M_parse 3 (some .int) rm_M_parse) (σ : St) (x1 : Int32) (x2 : Int32)  (c112 : (7 * (xi σ 0 4)) ≤ x2) (hp : post (some (.int x1)) (WM G σ)) : Lb K G w0 (Qe K G w0 post rm_M_parse) 3 104 [(0, .ref (xa σ 0)), (1, .int x1), (2, .int x2)] [] (WM G σ) 0 0 := by
  refine b_iload_n X d_M_parse_104 2 rfl rfl ?_
  refine b_bipush X (v := 7) d_M_parse_105 (by decide) ?_
  refine b_aload_n X d_M_parse_107 0 rfl rfl ?_
  refine b_get X fl_M_158 0 rfl (v := .int (xi σ 0 4)) rfl d_M_parse_108 ?_
  refine b_imul X d_M_parse_111 ?_
  refine b_icmp_ge X (tgt := 133) d_M_parse_112 (by decide) (fun _ => ?_) (fun h => absurd c112 h)
  refine b_iload_n X d_M_parse_133 1 rfl rfl ?_
  exact b_iret X d_M_parse_134 hp
theorem sg_M_parse_104_f104 {K : KX} {G : GG} {w0 : va_W} {Q : State → Prop} (X : Bd K G w0 "FirstTreesModel" c_M_parse 3 (some .int) rm_M_parse) (σ : St) (x1 : Int32) (x2 : Int32) (n125 : Nat) (c112 : ¬ (7 * (xi σ 0 4)) ≤ x2) (e125 : x2 = nI n125) (h125 : n125 < 14007) (h126 : n125 < 14000) (k : Lb K G w0 Q 3 104 [(0, .ref (xa σ 0)), (1, .int x1), (2, .int (x2 + 1))] [] (WM G (wi σ 16 n125 (xi σ 17 n125))) 0 0) : Lb K G w0 Q 3 104 [(0, .ref (xa σ 0)), (1, .int x1), (2, .int x2)] [] (WM G σ) 0 0 := by
  refine b_iload_n X d_M_parse_104 2 rfl rfl ?_
  refine b_bipush X (v := 7) d_M_parse_105 (by decide) ?_
  refine b_aload_n X d_M_parse_107 0 rfl rfl ?_
  refine b_get X fl_M_158 0 rfl (v := .int (xi σ 0 4)) rfl d_M_parse_108 ?_
  refine b_imul X d_M_parse_111 ?_
  refine b_icmp_ge X (tgt := 133) d_M_parse_112 (by decide) (fun h => absurd h c112) (fun _ => ?_)
  refine b_aload_n X d_M_parse_115 0 rfl rfl ?_
  refine b_get X fl_M_58 0 rfl (v := .ref (xa σ 16)) rfl d_M_parse_116 ?_
  refine b_iload_n X d_M_parse_119 2 rfl rfl ?_
  refine b_aload_n X d_M_parse_120 0 rfl rfl ?_
  refine b_get X fl_M_61 0 rfl (v := .ref (xa σ 17)) rfl d_M_parse_121 ?_
  refine b_iload_n X d_M_parse_124 2 rfl rfl ?_
  refine b_iald X 17 rfl (by decide) n125 e125 h125 d_M_parse_125 ?_
  refine b_iast X 16 rfl (by decide) n125 e125 h126 (uWM_16 G σ n125 (xi σ 17 n125)) d_M_parse_126 ?_
  refine b_iinc X (lv' := [(0, .ref (xa σ 0)), (1, .int x1), (2, .int (x2 + 1))]) d_M_parse_127 2 rfl (v := (x2 + 1)) rfl (by decide) [1, 2, 0] rfl ?_
  refine b_goto X (tgt := 104) d_M_parse_130 (by decide) ?_
  exact k
theorem ct_M_reach_t (G : GG) (σ : St)  (r2 : Int32) (q2 : Sq) (t2 : Ct y_M_faultOf c_M_faultOf 4 (some .int) rm_M_faultOf G [.ref (xa σ 0)] (WM G σ) (eqp (some (.int r2)) (WM G (xa σ, q2)))) (c5 : ¬ r2 = 0) : Ct y_M_reach c_M_reach 1 (some .int) rm_M_reach G [.ref (xa σ 0)] (WM G σ) (eqp (some (.int 0)) (WM G (wi (xa σ, q2) 0 0 1))) := by
  refine Ct.of (by decide +kernel) (Nat.le_of_ble_eq_true rfl) (fun K X => ?_)
  show Lb K G _ _ 1 0 [(0, .ref (xa σ 0))] [] _ 0 0
  refine b_aload_n X d_M_reach_0 0 rfl rfl ?_
  refine b_aload_n X d_M_reach_1 0 rfl rfl ?_
  refine b_dV X cf_M_faultOf ci_M_faultOf ml_M_151 t2 0 rfl rfl (As := []) (rest := [.ref (xa σ 0)]) rfl (Nat.le_of_ble_eq_true rfl) ⟨Nat.le_of_ble_eq_true rfl, Nat.le_of_ble_eq_true rfl⟩ ⟨Nat.le_of_ble_eq_true rfl, Nat.le_of_ble_eq_true rfl⟩ rfl rfl d_M_reach_2 ?_
  refine b_if_ne X (tgt := 12) d_M_reach_5 (by decide) (fun _ => ?_) (fun h => absurd h c5)
  refine b_iconst X (v := 1) d_M_reach_12 (by decide) ?_
  refine b_put X fl_M_73 pl_M_thrown 0 rfl rfl rfl (Nat.le_of_ble_eq_true rfl) (uWM_0_thrown G (xa σ, q2) 1) d_M_reach_13 ?_
  refine b_aload_n X d_M_reach_16 0 rfl rfl ?_
  refine b_get X fl_M_73 0 rfl (v := .int 1) rfl d_M_reach_17 ?_
  refine b_if_le X (tgt := 25) d_M_reach_20 (by decide) (fun h => absurd h (by decide)) (fun _ => ?_)
  refine b_iconst X (v := 0) d_M_reach_23 (by decide) ?_
  exact b_iret X d_M_reach_24 ⟨rfl, rfl⟩
theorem ct_M_reach_ft (G : GG) (σ : St)  (r2 : Int32) (q2 : Sq) (q26 : Sq) (t2 : Ct y_M_faultOf c_M_faultOf 4 (some .int) rm_M_faultOf G [.ref (xa σ 0)] (WM G σ) (eqp (some (.int r2)) (WM G (xa σ, q2)))) (c5 : r2 = 0) (t26 : Ct y_M_findPlaces c_M_findPlaces 8 none rm_M_findPlaces G [.ref (xa σ 0)] (WM G (wi (xa σ, q2) 0 0 0)) (eqp (none) (WM G (xa σ, q26)))) (c43 : ¬ ((shrL (xl (xa σ, q26) 8 0) (xi (xa σ, q26) 0 3)) &&& 1) = 1) : Ct y_M_reach c_M_reach 1 (some .int) rm_M_reach G [.ref (xa σ 0)] (WM G σ) (eqp (some (.int (xi (xa σ, q26) 9 0))) (WM G (xa σ, q26))) := by
  refine Ct.of (by decide +kernel) (Nat.le_of_ble_eq_true rfl) (fun K X => ?_)
  show Lb K G _ _ 1 0 [(0, .ref (xa σ 0))] [] _ 0 0
  refine b_aload_n X d_M_reach_0 0 rfl rfl ?_
  refine b_aload_n X d_M_reach_1 0 rfl rfl ?_
  refine b_dV X cf_M_faultOf ci_M_faultOf ml_M_151 t2 0 rfl rfl (As := []) (rest := [.ref (xa σ 0)]) rfl (Nat.le_of_ble_eq_true rfl) ⟨Nat.le_of_ble_eq_true rfl, Nat.le_of_ble_eq_true rfl⟩ ⟨Nat.le_of_ble_eq_true rfl, Nat.le_of_ble_eq_true rfl⟩ rfl rfl d_M_reach_2 ?_
  refine b_if_ne X (tgt := 12) d_M_reach_5 (by decide) (fun h => absurd c5 h) (fun _ => ?_)
  refine b_iconst X (v := 0) d_M_reach_8 (by decide) ?_
  refine b_goto X (tgt := 13) d_M_reach_9 (by decide) ?_
  refine b_put X fl_M_73 pl_M_thrown 0 rfl rfl rfl (Nat.le_of_ble_eq_true rfl) (uWM_0_thrown G (xa σ, q2) 0) d_M_reach_13 ?_
  refine b_aload_n X d_M_reach_16 0 rfl rfl ?_
  refine b_get X fl_M_73 0 rfl (v := .int 0) rfl d_M_reach_17 ?_
  refine b_if_le X (tgt := 25) d_M_reach_20 (by decide) (fun _ => ?_) (fun h => absurd h (by decide))
  refine b_aload_n X d_M_reach_25 0 rfl rfl ?_
  refine b_dV X cf_M_findPlaces ci_M_findPlaces ml_M_155 t26 0 rfl rfl (As := []) (rest := []) rfl (Nat.le_of_ble_eq_true rfl) ⟨Nat.le_of_ble_eq_true rfl, Nat.le_of_ble_eq_true rfl⟩ ⟨Nat.le_of_ble_eq_true rfl, Nat.le_of_ble_eq_true rfl⟩ rfl rfl d_M_reach_26 ?_
  refine b_aload_n X d_M_reach_29 0 rfl rfl ?_
  refine b_get X fl_M_32 0 rfl (v := .ref (xa σ 8)) rfl d_M_reach_30 ?_
  refine b_iconst X (v := 0) d_M_reach_33 (by decide) ?_
  refine b_lald X 8 rfl (by decide) 0 (by decide) (by decide) d_M_reach_34 ?_
  refine b_aload_n X d_M_reach_35 0 rfl rfl ?_
  refine b_get X fl_M_105 0 rfl (v := .int (xi (xa σ, q26) 0 3)) rfl d_M_reach_36 ?_
  refine b_lshr X (v := (shrL (xl (xa σ, q26) 8 0) (xi (xa σ, q26) 0 3))) d_M_reach_39 rfl ?_
  refine b_lconst X (v := 1) d_M_reach_40 rfl ?_
  refine b_land X d_M_reach_41 ?_
  refine b_lconst X (v := 1) d_M_reach_42 rfl ?_
  refine b_l_ne X (tgt := 56) d_M_reach_43 d_M_reach_44 (by decide) (fun _ => ?_) (fun h => absurd h c43)
  refine b_aload_n X d_M_reach_56 0 rfl rfl ?_
  refine b_get X fl_M_36 0 rfl (v := .ref (xa σ 9)) rfl d_M_reach_57 ?_
  refine b_iconst X (v := 0) d_M_reach_60 (by decide) ?_
  refine b_iald X 9 rfl (by decide) 0 (by decide) (by decide) d_M_reach_61 ?_
  exact b_iret X d_M_reach_62 ⟨rfl, rfl⟩
theorem ct_M_reach_ff (G : GG) (σ : St)  (r2 : Int32) (q2 : Sq) (q26 : Sq) (t2 : Ct y_M_faultOf c_M_faultOf 4 (some .int) rm_M_faultOf G [.ref (xa σ 0)] (WM G σ) (eqp (some (.int r2)) (WM G (xa σ, q2)))) (c5 : r2 = 0) (t26 : Ct y_M_findPlaces c_M_findPlaces 8 none rm_M_findPlaces G [.ref (xa σ 0)] (WM G (wi (xa σ, q2) 0 0 0)) (eqp (none) (WM G (xa σ, q26)))) (c43 : ((shrL (xl (xa σ, q26) 8 0) (xi (xa σ, q26) 0 3)) &&& 1) = 1) : Ct y_M_reach c_M_reach 1 (some .int) rm_M_reach G [.ref (xa σ 0)] (WM G σ) (eqp (some (.int ((xi (xa σ, q26) 0 3) + 1))) (WM G (xa σ, q26))) := by
  refine Ct.of (by decide +kernel) (Nat.le_of_ble_eq_true rfl) (fun K X => ?_)
  show Lb K G _ _ 1 0 [(0, .ref (xa σ 0))] [] _ 0 0
  refine b_aload_n X d_M_reach_0 0 rfl rfl ?_
  refine b_aload_n X d_M_reach_1 0 rfl rfl ?_
  refine b_dV X cf_M_faultOf ci_M_faultOf ml_M_151 t2 0 rfl rfl (As := []) (rest := [.ref (xa σ 0)]) rfl (Nat.le_of_ble_eq_true rfl) ⟨Nat.le_of_ble_eq_true rfl, Nat.le_of_ble_eq_true rfl⟩ ⟨Nat.le_of_ble_eq_true rfl, Nat.le_of_ble_eq_true rfl⟩ rfl rfl d_M_reach_2 ?_
  refine b_if_ne X (tgt := 12) d_M_reach_5 (by decide) (fun h => absurd c5 h) (fun _ => ?_)
  refine b_iconst X (v := 0) d_M_reach_8 (by decide) ?_
  refine b_goto X (tgt := 13) d_M_reach_9 (by decide) ?_
  refine b_put X fl_M_73 pl_M_thrown 0 rfl rfl rfl (Nat.le_of_ble_eq_true rfl) (uWM_0_thrown G (xa σ, q2) 0) d_M_reach_13 ?_
  refine b_aload_n X d_M_reach_16 0 rfl rfl ?_
  refine b_get X fl_M_73 0 rfl (v := .int 0) rfl d_M_reach_17 ?_
  refine b_if_le X (tgt := 25) d_M_reach_20 (by decide) (fun _ => ?_) (fun h => absurd h (by decide))
  refine b_aload_n X d_M_reach_25 0 rfl rfl ?_
  refine b_dV X cf_M_findPlaces ci_M_findPlaces ml_M_155 t26 0 rfl rfl (As := []) (rest := []) rfl (Nat.le_of_ble_eq_true rfl) ⟨Nat.le_of_ble_eq_true rfl, Nat.le_of_ble_eq_true rfl⟩ ⟨Nat.le_of_ble_eq_true rfl, Nat.le_of_ble_eq_true rfl⟩ rfl rfl d_M_reach_26 ?_
  refine b_aload_n X d_M_reach_29 0 rfl rfl ?_
  refine b_get X fl_M_32 0 rfl (v := .ref (xa σ 8)) rfl d_M_reach_30 ?_
  refine b_iconst X (v := 0) d_M_reach_33 (by decide) ?_
  refine b_lald X 8 rfl (by decide) 0 (by decide) (by decide) d_M_reach_34 ?_
  refine b_aload_n X d_M_reach_35 0 rfl rfl ?_
  refine b_get X fl_M_105 0 rfl (v := .int (xi (xa σ, q26) 0 3)) rfl d_M_reach_36 ?_
  refine b_lshr X (v := (shrL (xl (xa σ, q26) 8 0) (xi (xa σ, q26) 0 3))) d_M_reach_39 rfl ?_
  refine b_lconst X (v := 1) d_M_reach_40 rfl ?_
  refine b_land X d_M_reach_41 ?_
  refine b_lconst X (v := 1) d_M_reach_42 rfl ?_
  refine b_l_ne X (tgt := 56) d_M_reach_43 d_M_reach_44 (by decide) (fun h => absurd c43 h) (fun _ => ?_)
  refine b_aload_n X d_M_reach_47 0 rfl rfl ?_
  refine b_get X fl_M_105 0 rfl (v := .int (xi (xa σ, q26) 0 3)) rfl d_M_reach_48 ?_
  refine b_iconst X (v := 1) d_M_reach_51 (by decide) ?_
  refine b_iadd X d_M_reach_52 ?_
  refine b_goto X (tgt := 62) d_M_reach_53 (by decide) ?_
  exact b_iret X d_M_reach_62 ⟨rfl, rfl⟩
theorem sg_M_findNexts_0_2 {K : KX} {G : GG} {w0 : va_W} {Q : State → Prop} (X : Bd K G w0 "FirstTreesModel" c_M_findNexts 8 none rm_M_findNexts) (σ : St) (x1 : Int32)   (k : Lb K G w0 Q 8 2 [(0, .ref (xa σ 0)), (1, .int x1), (2, .int x1)] [] (WM G σ) 0 0) : Lb K G w0 Q 8 0 [(0, .ref (xa σ 0)), (1, .int x1)] [] (WM G σ) 0 0 := by
  refine b_iload_n X d_M_findNexts_0 1 rfl rfl ?_
  refine b_istore_n X (lv' := [(0, .ref (xa σ 0)), (1, .int x1), (2, .int x1)]) d_M_findNexts_1 rfl (by decide) [1, 2, 0] rfl ?_
  exact k
theorem sg_M_findNexts_2_tr {K : KX} {G : GG} {w0 : va_W} {post : PostT} (X : Bd K G w0 "FirstTreesModel" c_M_findNexts 8 none rm_M_findNexts) (σ : St) (x1 : Int32) (x2 : Int32)  (c3 : x2 < 0) (hp : post none (WM G σ)) : Lb K G w0 (Qe K G w0 post rm_M_findNexts) 8 2 [(0, .ref (xa σ 0)), (1, .int x1), (2, .int x2)] [] (WM G σ) 0 0 := by
  refine b_iload_n X d_M_findNexts_2 2 rfl rfl ?_
  refine b_if_lt X (tgt := 89) d_M_findNexts_3 (by decide) (fun _ => ?_) (fun h => absurd c3 h)
  exact b_vret X d_M_findNexts_89 hp
theorem sg_M_findNexts_2_f8 {K : KX} {G : GG} {w0 : va_W} {Q : State → Prop} (X : Bd K G w0 "FirstTreesModel" c_M_findNexts 8 none rm_M_findNexts) (σ : St) (x1 : Int32) (x2 : Int32)  (c3 : ¬ x2 < 0) (k : Lb K G w0 Q 8 8 [(0, .ref (xa σ 0)), (1, .int x1), (2, .int x2), (3, .int 0)] [] (WM G σ) 0 0) : Lb K G w0 Q 8 2 [(0, .ref (xa σ 0)), (1, .int x1), (2, .int x2)] [] (WM G σ) 0 0 := by
  refine b_iload_n X d_M_findNexts_2 2 rfl rfl ?_
  refine b_if_lt X (tgt := 89) d_M_findNexts_3 (by decide) (fun h => absurd h c3) (fun _ => ?_)
  refine b_iconst X (v := 0) d_M_findNexts_6 (by decide) ?_
  refine b_istore_n X (lv' := [(0, .ref (xa σ 0)), (1, .int x1), (2, .int x2), (3, .int 0)]) d_M_findNexts_7 rfl (by decide) [1, 2, 3, 0] rfl ?_
  exact k
theorem sg_M_findNexts_8_t2 {K : KX} {G : GG} {w0 : va_W} {Q : State → Prop} (X : Bd K G w0 "FirstTreesModel" c_M_findNexts 8 none rm_M_findNexts) (σ : St) (x1 : Int32) (x2 : Int32) (x3 : Int32)  (c13 : (xi σ 0 1) ≤ x3) (k : Lb K G w0 Q 8 2 [(0, .ref (xa σ 0)), (1, .int x1), (2, .int (x2 + (-1)))] [] (WM G σ) 0 0) : Lb K G w0 Q 8 8 [(0, .ref (xa σ 0)), (1, .int x1), (2, .int x2), (3, .int x3)] [] (WM G σ) 0 0 := by
  refine b_iload_n X d_M_findNexts_8 3 rfl rfl ?_
  refine b_aload_n X d_M_findNexts_9 0 rfl rfl ?_
  refine b_get X fl_M_89 0 rfl (v := .int (xi σ 0 1)) rfl d_M_findNexts_10 ?_
  refine b_icmp_ge X (tgt := 83) d_M_findNexts_13 (by decide) (fun _ => ?_) (fun h => absurd c13 h)
  refine b_iinc X (lv' := [(0, .ref (xa σ 0)), (1, .int x1), (2, .int (x2 + (-1))), (3, .int x3)]) d_M_findNexts_83 2 rfl (v := (x2 + (-1))) rfl (by decide) [1, 2, 0, 3] rfl ?_
  refine b_goto X (tgt := 2) d_M_findNexts_86 (by decide) ?_
  refine Lb.pick (lv' := [(0, .ref (xa σ 0)), (1, .int x1), (2, .int (x2 + (-1)))]) [0, 1, 2] rfl ?_
  exact k
theorem sg_M_findNexts_8_f30 {K : KX} {G : GG} {w0 : va_W} {Q : State → Prop} (X : Bd K G w0 "FirstTreesModel" c_M_findNexts 8 none rm_M_findNexts) (σ : St) (x1 : Int32) (x2 : Int32) (x3 : Int32) (n21 : Nat) (c13 : ¬ (xi σ 0 1) ≤ x3) (e21 : x3 = nI n21) (h21 : n21 < 16) (k : Lb K G w0 Q 8 30 [(0, .ref (xa σ 0)), (1, .int x1), (2, .int x2), (3, .int x3), (4, .int (xi σ 6 n21)), (5, .long 0), (7, .int 0)] [] (WM G σ) 0 0) : Lb K G w0 Q 8 8 [(0, .ref (xa σ 0)), (1, .int x1), (2, .int x2), (3, .int x3)] [] (WM G σ) 0 0 := by
  refine b_iload_n X d_M_findNexts_8 3 rfl rfl ?_
  refine b_aload_n X d_M_findNexts_9 0 rfl rfl ?_
  refine b_get X fl_M_89 0 rfl (v := .int (xi σ 0 1)) rfl d_M_findNexts_10 ?_
  refine b_icmp_ge X (tgt := 83) d_M_findNexts_13 (by decide) (fun h => absurd h c13) (fun _ => ?_)
  refine b_aload_n X d_M_findNexts_16 0 rfl rfl ?_
  refine b_get X fl_M_26 0 rfl (v := .ref (xa σ 6)) rfl d_M_findNexts_17 ?_
  refine b_iload_n X d_M_findNexts_20 3 rfl rfl ?_
  refine b_iald X 6 rfl (by decide) n21 e21 h21 d_M_findNexts_21 ?_
  refine b_istore X (lv' := [(0, .ref (xa σ 0)), (1, .int x1), (2, .int x2), (3, .int x3), (4, .int (xi σ 6 n21))]) d_M_findNexts_22 (by decide) [1, 2, 3, 4, 0] rfl ?_
  refine b_lconst X (v := 0) d_M_findNexts_24 rfl ?_
  refine b_lstore X (lv' := [(0, .ref (xa σ 0)), (1, .int x1), (2, .int x2), (3, .int x3), (4, .int (xi σ 6 n21)), (5, .long 0)]) d_M_findNexts_25 (by decide) [1, 2, 3, 4, 5, 0] rfl ?_
  refine b_iconst X (v := 0) d_M_findNexts_27 (by decide) ?_
  refine b_istore X (lv' := [(0, .ref (xa σ 0)), (1, .int x1), (2, .int x2), (3, .int x3), (4, .int (xi σ 6 n21)), (5, .long 0), (7, .int 0)]) d_M_findNexts_28 (by decide) [1, 2, 3, 4, 5, 6, 0] rfl ?_
  exact k
theorem sg_M_findNexts_30_t8 {K : KX} {G : GG} {w0 : va_W} {Q : State → Prop} (X : Bd K G w0 "FirstTreesModel" c_M_findNexts 8 none rm_M_findNexts) (σ : St) (x1 : Int32) (x2 : Int32) (x3 : Int32) (x4 : Int32) (x5 : Int64) (x7 : Int32) (n38 : Nat) (n76 : Nat) (e38 : x4 = nI n38) (h38 : n38 < 16) (c39 : (xi σ 1 n38) ≤ x7) (e76 : ((61 * x4) + x2) = nI n76) (h76 : n76 < 976) (k : Lb K G w0 Q 8 8 [(0, .ref (xa σ 0)), (1, .int x1), (2, .int x2), (3, .int (x3 + 1))] [] (WM G (wl σ 10 n76 x5)) 0 0) : Lb K G w0 Q 8 30 [(0, .ref (xa σ 0)), (1, .int x1), (2, .int x2), (3, .int x3), (4, .int x4), (5, .long x5), (7, .int x7)] [] (WM G σ) 0 0 := by
  refine b_iload X d_M_findNexts_30 6 rfl ?_
  refine b_aload_n X d_M_findNexts_32 0 rfl rfl ?_
  refine b_get X fl_M_7 0 rfl (v := .ref (xa σ 1)) rfl d_M_findNexts_33 ?_
  refine b_iload X d_M_findNexts_36 4 rfl ?_
  refine b_iald X 1 rfl (by decide) n38 e38 h38 d_M_findNexts_38 ?_
  refine b_icmp_ge X (tgt := 63) d_M_findNexts_39 (by decide) (fun _ => ?_) (fun h => absurd c39 h)
  refine b_aload_n X d_M_findNexts_63 0 rfl rfl ?_
  refine b_get X fl_M_39 0 rfl (v := .ref (xa σ 10)) rfl d_M_findNexts_64 ?_
  refine b_bipush X (v := 61) d_M_findNexts_67 (by decide) ?_
  refine b_iload X d_M_findNexts_69 4 rfl ?_
  refine b_imul X d_M_findNexts_71 ?_
  refine b_iload_n X d_M_findNexts_72 2 rfl rfl ?_
  refine b_iadd X d_M_findNexts_73 ?_
  refine b_lload X d_M_findNexts_74 5 rfl ?_
  refine b_last X 10 rfl (by decide) n76 e76 h76 (uWM_10 G σ n76 x5) d_M_findNexts_76 ?_
  refine b_iinc X (lv' := [(0, .ref (xa σ 0)), (1, .int x1), (2, .int x2), (3, .int (x3 + 1)), (4, .int x4), (5, .long x5), (7, .int x7)]) d_M_findNexts_77 3 rfl (v := (x3 + 1)) rfl (by decide) [1, 2, 3, 0, 4, 5, 6] rfl ?_
  refine b_goto X (tgt := 8) d_M_findNexts_80 (by decide) ?_
  refine Lb.pick (lv' := [(0, .ref (xa σ 0)), (1, .int x1), (2, .int x2), (3, .int (x3 + 1))]) [0, 1, 2, 3] rfl ?_
  exact k
theorem sg_M_findNexts_30_f30 {K : KX} {G : GG} {w0 : va_W} {Q : State → Prop} (X : Bd K G w0 "FirstTreesModel" c_M_findNexts 8 none rm_M_findNexts) (σ : St) (x1 : Int32) (x2 : Int32) (x3 : Int32) (x4 : Int32) (x5 : Int64) (x7 : Int32) (n38 : Nat) (r51 : Int64) (q51 : Sq) (e38 : x4 = nI n38) (h38 : n38 < 16) (c39 : ¬ (xi σ 1 n38) ≤ x7) (t51 : Ct y_M_nextAlong c_M_nextAlong 12 (some .long) rm_M_nextAlong G [.ref (xa σ 0), .int x4, .int x7, .int x2, .int x1] (WM G σ) (eqp (some (.long r51)) (WM G (xa σ, q51)))) (k : Lb K G w0 Q 8 30 [(0, .ref (xa σ 0)), (1, .int x1), (2, .int x2), (3, .int x3), (4, .int x4), (5, .long (x5 ||| r51)), (7, .int (x7 + 1))] [] (WM G (xa σ, q51)) 0 0) : Lb K G w0 Q 8 30 [(0, .ref (xa σ 0)), (1, .int x1), (2, .int x2), (3, .int x3), (4, .int x4), (5, .long x5), (7, .int x7)] [] (WM G σ) 0 0 := by
  refine b_iload X d_M_findNexts_30 6 rfl ?_
  refine b_aload_n X d_M_findNexts_32 0 rfl rfl ?_
  refine b_get X fl_M_7 0 rfl (v := .ref (xa σ 1)) rfl d_M_findNexts_33 ?_
  refine b_iload X d_M_findNexts_36 4 rfl ?_
  refine b_iald X 1 rfl (by decide) n38 e38 h38 d_M_findNexts_38 ?_
  refine b_icmp_ge X (tgt := 63) d_M_findNexts_39 (by decide) (fun h => absurd h c39) (fun _ => ?_)
  refine b_lload X d_M_findNexts_42 5 rfl ?_
  refine b_aload_n X d_M_findNexts_44 0 rfl rfl ?_
  refine b_iload X d_M_findNexts_45 4 rfl ?_
  refine b_iload X d_M_findNexts_47 6 rfl ?_
  refine b_iload_n X d_M_findNexts_49 2 rfl rfl ?_
  refine b_iload_n X d_M_findNexts_50 1 rfl rfl ?_
  refine b_dV X cf_M_nextAlong ci_M_nextAlong ml_M_171 t51 0 rfl rfl (As := [.int x4, .int x7, .int x2, .int x1]) (rest := [.long x5]) rfl (Nat.le_of_ble_eq_true rfl) ⟨Nat.le_of_ble_eq_true rfl, Nat.le_of_ble_eq_true rfl⟩ ⟨Nat.le_of_ble_eq_true rfl, Nat.le_of_ble_eq_true rfl⟩ rfl rfl d_M_findNexts_51 ?_
  refine b_lor X d_M_findNexts_54 ?_
  refine b_lstore X (lv' := [(0, .ref (xa σ 0)), (1, .int x1), (2, .int x2), (3, .int x3), (4, .int x4), (5, .long (x5 ||| r51)), (7, .int x7)]) d_M_findNexts_55 (by decide) [1, 2, 3, 4, 5, 0, 6] rfl ?_
  refine b_iinc X (lv' := [(0, .ref (xa σ 0)), (1, .int x1), (2, .int x2), (3, .int x3), (4, .int x4), (5, .long (x5 ||| r51)), (7, .int (x7 + 1))]) d_M_findNexts_57 6 rfl (v := (x7 + 1)) rfl (by decide) [1, 2, 3, 4, 5, 6, 0] rfl ?_
  refine b_goto X (tgt := 30) d_M_findNexts_60 (by decide) ?_
  exact k
theorem sg_M_nextAlong_0_11 {K : KX} {G : GG} {w0 : va_W} {Q : State → Prop} (X : Bd K G w0 "FirstTreesModel" c_M_nextAlong 12 (some .long) rm_M_nextAlong) (σ : St) (x1 : Int32) (x2 : Int32) (x3 : Int32) (x4 : Int32)   (k : Lb K G w0 Q 12 11 [(0, .ref (xa σ 0)), (1, .int x1), (2, .int x2), (3, .int x3), (4, .int x4), (5, .long 0), (7, .long (shlL 1 x3)), (9, .int 0)] [] (WM G σ) 0 0) : Lb K G w0 Q 12 0 [(0, .ref (xa σ 0)), (1, .int x1), (2, .int x2), (3, .int x3), (4, .int x4)] [] (WM G σ) 0 0 := by
  refine b_lconst X (v := 0) d_M_nextAlong_0 rfl ?_
  refine b_lstore X (lv' := [(0, .ref (xa σ 0)), (1, .int x1), (2, .int x2), (3, .int x3), (4, .int x4), (5, .long 0)]) d_M_nextAlong_1 (by decide) [1, 2, 3, 4, 5, 0] rfl ?_
  refine b_lconst X (v := 1) d_M_nextAlong_3 rfl ?_
  refine b_iload_n X d_M_nextAlong_4 3 rfl rfl ?_
  refine b_lshl X (v := (shlL 1 x3)) d_M_nextAlong_5 rfl ?_
  refine b_lstore X (lv' := [(0, .ref (xa σ 0)), (1, .int x1), (2, .int x2), (3, .int x3), (4, .int x4), (5, .long 0), (7, .long (shlL 1 x3))]) d_M_nextAlong_6 (by decide) [1, 2, 3, 4, 5, 6, 0] rfl ?_
  refine b_iconst X (v := 0) d_M_nextAlong_8 (by decide) ?_
  refine b_istore X (lv' := [(0, .ref (xa σ 0)), (1, .int x1), (2, .int x2), (3, .int x3), (4, .int x4), (5, .long 0), (7, .long (shlL 1 x3)), (9, .int 0)]) d_M_nextAlong_9 (by decide) [1, 2, 3, 4, 5, 6, 7, 0] rfl ?_
  exact k
theorem sg_M_nextAlong_11_tr {K : KX} {G : GG} {w0 : va_W} {post : PostT} (X : Bd K G w0 "FirstTreesModel" c_M_nextAlong 12 (some .long) rm_M_nextAlong) (σ : St) (x1 : Int32) (x2 : Int32) (x3 : Int32) (x4 : Int32) (x5 : Int64) (x7 : Int64) (x9 : Int32) (n16 : Nat) (e16 : ((8 * x1) + x2) = nI n16) (h16 : n16 < 128) (c19 : (xi σ 2 n16) ≤ x9) (hp : post (some (.long x5)) (WM G σ)) : Lb K G w0 (Qe K G w0 post rm_M_nextAlong) 12 11 [(0, .ref (xa σ 0)), (1, .int x1), (2, .int x2), (3, .int x3), (4, .int x4), (5, .long x5), (7, .long x7), (9, .int x9)] [] (WM G σ) 0 0 := by
  refine b_iload X d_M_nextAlong_11 7 rfl ?_
  refine b_aload_n X d_M_nextAlong_13 0 rfl rfl ?_
  refine b_iload_n X d_M_nextAlong_14 1 rfl rfl ?_
  refine b_iload_n X d_M_nextAlong_15 2 rfl rfl ?_
  refine b_dV X cf_M_sizeOf ci_M_sizeOf ml_M_77 (ct_M_sizeOf_ G σ x1 x2 n16 e16 h16) 0 rfl rfl (As := [.int x1, .int x2]) (rest := [.int x9]) rfl (Nat.le_of_ble_eq_true rfl) ⟨Nat.le_of_ble_eq_true rfl, Nat.le_of_ble_eq_true rfl⟩ ⟨Nat.le_of_ble_eq_true rfl, Nat.le_of_ble_eq_true rfl⟩ rfl rfl d_M_nextAlong_16 ?_
  refine b_icmp_ge X (tgt := 122) d_M_nextAlong_19 (by decide) (fun _ => ?_) (fun h => absurd c19 h)
  refine b_lload X d_M_nextAlong_122 5 rfl ?_
  exact b_lret X d_M_nextAlong_124 hp
theorem sg_M_nextAlong_11_f35 {K : KX} {G : GG} {w0 : va_W} {Q : State → Prop} (X : Bd K G w0 "FirstTreesModel" c_M_nextAlong 12 (some .long) rm_M_nextAlong) (σ : St) (x1 : Int32) (x2 : Int32) (x3 : Int32) (x4 : Int32) (x5 : Int64) (x7 : Int64) (x9 : Int32) (n16 : Nat) (n27 : Nat) (e16 : ((8 * x1) + x2) = nI n16) (h16 : n16 < 128) (c19 : ¬ (xi σ 2 n16) ≤ x9) (e27 : (((64 * x1) + (8 * x2)) + x9) = nI n27) (h27 : n27 < 1024) (k : Lb K G w0 Q 12 35 [(0, .ref (xa σ 0)), (1, .int x1), (2, .int x2), (3, .int x3), (4, .int x4), (5, .long x5), (7, .long x7), (9, .int x9), (10, .int (xi σ 3 n27)), (11, .int x3)] [] (WM G σ) 0 0) : Lb K G w0 Q 12 11 [(0, .ref (xa σ 0)), (1, .int x1), (2, .int x2), (3, .int x3), (4, .int x4), (5, .long x5), (7, .long x7), (9, .int x9)] [] (WM G σ) 0 0 := by
  refine b_iload X d_M_nextAlong_11 7 rfl ?_
  refine b_aload_n X d_M_nextAlong_13 0 rfl rfl ?_
  refine b_iload_n X d_M_nextAlong_14 1 rfl rfl ?_
  refine b_iload_n X d_M_nextAlong_15 2 rfl rfl ?_
  refine b_dV X cf_M_sizeOf ci_M_sizeOf ml_M_77 (ct_M_sizeOf_ G σ x1 x2 n16 e16 h16) 0 rfl rfl (As := [.int x1, .int x2]) (rest := [.int x9]) rfl (Nat.le_of_ble_eq_true rfl) ⟨Nat.le_of_ble_eq_true rfl, Nat.le_of_ble_eq_true rfl⟩ ⟨Nat.le_of_ble_eq_true rfl, Nat.le_of_ble_eq_true rfl⟩ rfl rfl d_M_nextAlong_16 ?_
  refine b_icmp_ge X (tgt := 122) d_M_nextAlong_19 (by decide) (fun h => absurd h c19) (fun _ => ?_)
  refine b_aload_n X d_M_nextAlong_22 0 rfl rfl ?_
  refine b_iload_n X d_M_nextAlong_23 1 rfl rfl ?_
  refine b_iload_n X d_M_nextAlong_24 2 rfl rfl ?_
  refine b_iload X d_M_nextAlong_25 7 rfl ?_
  refine b_dV X cf_M_symbolAt ci_M_symbolAt ml_M_81 (ct_M_symbolAt_ G σ x1 x2 x9 n27 e27 h27) 0 rfl rfl (As := [.int x1, .int x2, .int x9]) (rest := []) rfl (Nat.le_of_ble_eq_true rfl) ⟨Nat.le_of_ble_eq_true rfl, Nat.le_of_ble_eq_true rfl⟩ ⟨Nat.le_of_ble_eq_true rfl, Nat.le_of_ble_eq_true rfl⟩ rfl rfl d_M_nextAlong_27 ?_
  refine b_istore X (lv' := [(0, .ref (xa σ 0)), (1, .int x1), (2, .int x2), (3, .int x3), (4, .int x4), (5, .long x5), (7, .long x7), (9, .int x9), (10, .int (xi σ 3 n27))]) d_M_nextAlong_30 (by decide) [1, 2, 3, 4, 5, 6, 7, 8, 0] rfl ?_
  refine b_iload_n X d_M_nextAlong_32 3 rfl rfl ?_
  refine b_istore X (lv' := [(0, .ref (xa σ 0)), (1, .int x1), (2, .int x2), (3, .int x3), (4, .int x4), (5, .long x5), (7, .long x7), (9, .int x9), (10, .int (xi σ 3 n27)), (11, .int x3)]) d_M_nextAlong_33 (by decide) [1, 2, 3, 4, 5, 6, 7, 8, 9, 0] rfl ?_
  exact k
theorem sg_M_nextAlong_35_t11 {K : KX} {G : GG} {w0 : va_W} {Q : State → Prop} (X : Bd K G w0 "FirstTreesModel" c_M_nextAlong 12 (some .long) rm_M_nextAlong) (σ : St) (x1 : Int32) (x2 : Int32) (x3 : Int32) (x4 : Int32) (x5 : Int64) (x7 : Int64) (x9 : Int32) (x10 : Int32) (x11 : Int32) (r111 : Int64) (q111 : Sq) (c39 : x4 < x11) (t111 : Ct y_M_step c_M_step 8 (some .long) rm_M_step G [.ref (xa σ 0), .long x7, .int x10] (WM G σ) (eqp (some (.long r111)) (WM G (xa σ, q111)))) (k : Lb K G w0 Q 12 11 [(0, .ref (xa σ 0)), (1, .int x1), (2, .int x2), (3, .int x3), (4, .int x4), (5, .long x5), (7, .long r111), (9, .int (x9 + 1))] [] (WM G (xa σ, q111)) 0 0) : Lb K G w0 Q 12 35 [(0, .ref (xa σ 0)), (1, .int x1), (2, .int x2), (3, .int x3), (4, .int x4), (5, .long x5), (7, .long x7), (9, .int x9), (10, .int x10), (11, .int x11)] [] (WM G σ) 0 0 := by
  refine b_iload X d_M_nextAlong_35 9 rfl ?_
  refine b_iload X d_M_nextAlong_37 4 rfl ?_
  refine b_icmp_gt X (tgt := 106) d_M_nextAlong_39 (by decide) (fun _ => ?_) (fun h => absurd c39 h)
  refine b_aload_n X d_M_nextAlong_106 0 rfl rfl ?_
  refine b_lload X d_M_nextAlong_107 6 rfl ?_
  refine b_iload X d_M_nextAlong_109 8 rfl ?_
  refine b_dV X cf_M_step ci_M_step ml_M_111 t111 0 rfl rfl (As := [.long x7, .int x10]) (rest := []) rfl (Nat.le_of_ble_eq_true rfl) ⟨Nat.le_of_ble_eq_true rfl, Nat.le_of_ble_eq_true rfl⟩ ⟨Nat.le_of_ble_eq_true rfl, Nat.le_of_ble_eq_true rfl⟩ rfl rfl d_M_nextAlong_111 ?_
  refine b_lstore X (lv' := [(0, .ref (xa σ 0)), (1, .int x1), (2, .int x2), (3, .int x3), (4, .int x4), (5, .long x5), (7, .long r111), (9, .int x9), (10, .int x10), (11, .int x11)]) d_M_nextAlong_114 (by decide) [1, 2, 3, 4, 5, 6, 0, 7, 8, 9] rfl ?_
  refine b_iinc X (lv' := [(0, .ref (xa σ 0)), (1, .int x1), (2, .int x2), (3, .int x3), (4, .int x4), (5, .long x5), (7, .long r111), (9, .int (x9 + 1)), (10, .int x10), (11, .int x11)]) d_M_nextAlong_116 7 rfl (v := (x9 + 1)) rfl (by decide) [1, 2, 3, 4, 5, 6, 7, 0, 8, 9] rfl ?_
  refine b_goto X (tgt := 11) d_M_nextAlong_119 (by decide) ?_
  refine Lb.pick (lv' := [(0, .ref (xa σ 0)), (1, .int x1), (2, .int x2), (3, .int x3), (4, .int x4), (5, .long x5), (7, .long r111), (9, .int (x9 + 1))]) [0, 1, 2, 3, 4, 5, 6, 7] rfl ?_
  exact k
theorem sg_M_nextAlong_35_ft35 {K : KX} {G : GG} {w0 : va_W} {Q : State → Prop} (X : Bd K G w0 "FirstTreesModel" c_M_nextAlong 12 (some .long) rm_M_nextAlong) (σ : St) (x1 : Int32) (x2 : Int32) (x3 : Int32) (x4 : Int32) (x5 : Int64) (x7 : Int64) (x9 : Int32) (x10 : Int32) (x11 : Int32)  (c39 : ¬ x4 < x11) (c50 : ¬ ((shrL x7 x11) &&& 1) = 1) (k : Lb K G w0 Q 12 35 [(0, .ref (xa σ 0)), (1, .int x1), (2, .int x2), (3, .int x3), (4, .int x4), (5, .long x5), (7, .long x7), (9, .int x9), (10, .int x10), (11, .int (x11 + 1))] [] (WM G σ) 0 0) : Lb K G w0 Q 12 35 [(0, .ref (xa σ 0)), (1, .int x1), (2, .int x2), (3, .int x3), (4, .int x4), (5, .long x5), (7, .long x7), (9, .int x9), (10, .int x10), (11, .int x11)] [] (WM G σ) 0 0 := by
  refine b_iload X d_M_nextAlong_35 9 rfl ?_
  refine b_iload X d_M_nextAlong_37 4 rfl ?_
  refine b_icmp_gt X (tgt := 106) d_M_nextAlong_39 (by decide) (fun h => absurd h c39) (fun _ => ?_)
  refine b_lload X d_M_nextAlong_42 6 rfl ?_
  refine b_iload X d_M_nextAlong_44 9 rfl ?_
  refine b_lshr X (v := (shrL x7 x11)) d_M_nextAlong_46 rfl ?_
  refine b_lconst X (v := 1) d_M_nextAlong_47 rfl ?_
  refine b_land X d_M_nextAlong_48 ?_
  refine b_lconst X (v := 1) d_M_nextAlong_49 rfl ?_
  refine b_l_ne X (tgt := 100) d_M_nextAlong_50 d_M_nextAlong_51 (by decide) (fun _ => ?_) (fun h => absurd h c50)
  refine b_iinc X (lv' := [(0, .ref (xa σ 0)), (1, .int x1), (2, .int x2), (3, .int x3), (4, .int x4), (5, .long x5), (7, .long x7), (9, .int x9), (10, .int x10), (11, .int (x11 + 1))]) d_M_nextAlong_100 9 rfl (v := (x11 + 1)) rfl (by decide) [1, 2, 3, 4, 5, 6, 7, 8, 9, 0] rfl ?_
  refine b_goto X (tgt := 35) d_M_nextAlong_103 (by decide) ?_
  exact k
theorem sg_M_nextAlong_35_fftt35 {K : KX} {G : GG} {w0 : va_W} {Q : State → Prop} (X : Bd K G w0 "FirstTreesModel" c_M_nextAlong 12 (some .long) rm_M_nextAlong) (σ : St) (x1 : Int32) (x2 : Int32) (x3 : Int32) (x4 : Int32) (x5 : Int64) (x7 : Int64) (x9 : Int32) (x10 : Int32) (x11 : Int32)  (c39 : ¬ x4 < x11) (c50 : ((shrL x7 x11) &&& 1) = 1) (c61 : (b2i (x10 < 0)) = 0) (c86 : ¬ x11 = x4) (k : Lb K G w0 Q 12 35 [(0, .ref (xa σ 0)), (1, .int x1), (2, .int x2), (3, .int x3), (4, .int x4), (5, .long (x5 ||| 0)), (7, .long x7), (9, .int x9), (10, .int x10), (11, .int (x11 + 1))] [] (WM G σ) 0 0) : Lb K G w0 Q 12 35 [(0, .ref (xa σ 0)), (1, .int x1), (2, .int x2), (3, .int x3), (4, .int x4), (5, .long x5), (7, .long x7), (9, .int x9), (10, .int x10), (11, .int x11)] [] (WM G σ) 0 0 := by
  refine b_iload X d_M_nextAlong_35 9 rfl ?_
  refine b_iload X d_M_nextAlong_37 4 rfl ?_
  refine b_icmp_gt X (tgt := 106) d_M_nextAlong_39 (by decide) (fun h => absurd h c39) (fun _ => ?_)
  refine b_lload X d_M_nextAlong_42 6 rfl ?_
  refine b_iload X d_M_nextAlong_44 9 rfl ?_
  refine b_lshr X (v := (shrL x7 x11)) d_M_nextAlong_46 rfl ?_
  refine b_lconst X (v := 1) d_M_nextAlong_47 rfl ?_
  refine b_land X d_M_nextAlong_48 ?_
  refine b_lconst X (v := 1) d_M_nextAlong_49 rfl ?_
  refine b_l_ne X (tgt := 100) d_M_nextAlong_50 d_M_nextAlong_51 (by decide) (fun h => absurd c50 h) (fun _ => ?_)
  refine b_lload X d_M_nextAlong_54 5 rfl ?_
  refine b_iload X d_M_nextAlong_56 8 rfl ?_
  refine b_dS X cf_M_isRule ci_M_isRule ml_M_85 (ct_M_isRule G σ x10) (As := [.int x10]) (rest := [.long x5]) rfl (Nat.le_of_ble_eq_true rfl) ⟨Nat.le_of_ble_eq_true rfl, Nat.le_of_ble_eq_true rfl⟩ ⟨Nat.le_of_ble_eq_true rfl, Nat.le_of_ble_eq_true rfl⟩ rfl rfl d_M_nextAlong_58 ?_
  refine b_if_eq X (tgt := 82) d_M_nextAlong_61 (by decide) (fun _ => ?_) (fun h => absurd c61 h)
  refine b_iload X d_M_nextAlong_82 9 rfl ?_
  refine b_iload X d_M_nextAlong_84 4 rfl ?_
  refine b_icmp_ne X (tgt := 96) d_M_nextAlong_86 (by decide) (fun _ => ?_) (fun h => absurd h c86)
  refine b_lconst X (v := 0) d_M_nextAlong_96 rfl ?_
  refine b_lor X d_M_nextAlong_97 ?_
  refine b_lstore X (lv' := [(0, .ref (xa σ 0)), (1, .int x1), (2, .int x2), (3, .int x3), (4, .int x4), (5, .long (x5 ||| 0)), (7, .long x7), (9, .int x9), (10, .int x10), (11, .int x11)]) d_M_nextAlong_98 (by decide) [1, 2, 3, 4, 5, 0, 6, 7, 8, 9] rfl ?_
  refine b_iinc X (lv' := [(0, .ref (xa σ 0)), (1, .int x1), (2, .int x2), (3, .int x3), (4, .int x4), (5, .long (x5 ||| 0)), (7, .long x7), (9, .int x9), (10, .int x10), (11, .int (x11 + 1))]) d_M_nextAlong_100 9 rfl (v := (x11 + 1)) rfl (by decide) [1, 2, 3, 4, 5, 6, 7, 8, 9, 0] rfl ?_
  refine b_goto X (tgt := 35) d_M_nextAlong_103 (by decide) ?_
  exact k
theorem sg_M_nextAlong_35_fftf35 {K : KX} {G : GG} {w0 : va_W} {Q : State → Prop} (X : Bd K G w0 "FirstTreesModel" c_M_nextAlong 12 (some .long) rm_M_nextAlong) (σ : St) (x1 : Int32) (x2 : Int32) (x3 : Int32) (x4 : Int32) (x5 : Int64) (x7 : Int64) (x9 : Int32) (x10 : Int32) (x11 : Int32)  (c39 : ¬ x4 < x11) (c50 : ((shrL x7 x11) &&& 1) = 1) (c61 : (b2i (x10 < 0)) = 0) (c86 : x11 = x4) (k : Lb K G w0 Q 12 35 [(0, .ref (xa σ 0)), (1, .int x1), (2, .int x2), (3, .int x3), (4, .int x4), (5, .long (x5 ||| (shlL 1 x10))), (7, .long x7), (9, .int x9), (10, .int x10), (11, .int (x11 + 1))] [] (WM G σ) 0 0) : Lb K G w0 Q 12 35 [(0, .ref (xa σ 0)), (1, .int x1), (2, .int x2), (3, .int x3), (4, .int x4), (5, .long x5), (7, .long x7), (9, .int x9), (10, .int x10), (11, .int x11)] [] (WM G σ) 0 0 := by
  refine b_iload X d_M_nextAlong_35 9 rfl ?_
  refine b_iload X d_M_nextAlong_37 4 rfl ?_
  refine b_icmp_gt X (tgt := 106) d_M_nextAlong_39 (by decide) (fun h => absurd h c39) (fun _ => ?_)
  refine b_lload X d_M_nextAlong_42 6 rfl ?_
  refine b_iload X d_M_nextAlong_44 9 rfl ?_
  refine b_lshr X (v := (shrL x7 x11)) d_M_nextAlong_46 rfl ?_
  refine b_lconst X (v := 1) d_M_nextAlong_47 rfl ?_
  refine b_land X d_M_nextAlong_48 ?_
  refine b_lconst X (v := 1) d_M_nextAlong_49 rfl ?_
  refine b_l_ne X (tgt := 100) d_M_nextAlong_50 d_M_nextAlong_51 (by decide) (fun h => absurd c50 h) (fun _ => ?_)
  refine b_lload X d_M_nextAlong_54 5 rfl ?_
  refine b_iload X d_M_nextAlong_56 8 rfl ?_
  refine b_dS X cf_M_isRule ci_M_isRule ml_M_85 (ct_M_isRule G σ x10) (As := [.int x10]) (rest := [.long x5]) rfl (Nat.le_of_ble_eq_true rfl) ⟨Nat.le_of_ble_eq_true rfl, Nat.le_of_ble_eq_true rfl⟩ ⟨Nat.le_of_ble_eq_true rfl, Nat.le_of_ble_eq_true rfl⟩ rfl rfl d_M_nextAlong_58 ?_
  refine b_if_eq X (tgt := 82) d_M_nextAlong_61 (by decide) (fun _ => ?_) (fun h => absurd c61 h)
  refine b_iload X d_M_nextAlong_82 9 rfl ?_
  refine b_iload X d_M_nextAlong_84 4 rfl ?_
  refine b_icmp_ne X (tgt := 96) d_M_nextAlong_86 (by decide) (fun h => absurd c86 h) (fun _ => ?_)
  refine b_lconst X (v := 1) d_M_nextAlong_89 rfl ?_
  refine b_iload X d_M_nextAlong_90 8 rfl ?_
  refine b_lshl X (v := (shlL 1 x10)) d_M_nextAlong_92 rfl ?_
  refine b_goto X (tgt := 97) d_M_nextAlong_93 (by decide) ?_
  refine b_lor X d_M_nextAlong_97 ?_
  refine b_lstore X (lv' := [(0, .ref (xa σ 0)), (1, .int x1), (2, .int x2), (3, .int x3), (4, .int x4), (5, .long (x5 ||| (shlL 1 x10))), (7, .long x7), (9, .int x9), (10, .int x10), (11, .int x11)]) d_M_nextAlong_98 (by decide) [1, 2, 3, 4, 5, 0, 6, 7, 8, 9] rfl ?_
  refine b_iinc X (lv' := [(0, .ref (xa σ 0)), (1, .int x1), (2, .int x2), (3, .int x3), (4, .int x4), (5, .long (x5 ||| (shlL 1 x10))), (7, .long x7), (9, .int x9), (10, .int x10), (11, .int (x11 + 1))]) d_M_nextAlong_100 9 rfl (v := (x11 + 1)) rfl (by decide) [1, 2, 3, 4, 5, 6, 7, 8, 9, 0] rfl ?_
  refine b_goto X (tgt := 35) d_M_nextAlong_103 (by decide) ?_
  exact k
theorem sg_M_nextAlong_35_fff35 {K : KX} {G : GG} {w0 : va_W} {Q : State → Prop} (X : Bd K G w0 "FirstTreesModel" c_M_nextAlong 12 (some .long) rm_M_nextAlong) (σ : St) (x1 : Int32) (x2 : Int32) (x3 : Int32) (x4 : Int32) (x5 : Int64) (x7 : Int64) (x9 : Int32) (x10 : Int32) (x11 : Int32) (n78 : Nat) (c39 : ¬ x4 < x11) (c50 : ((shrL x7 x11) &&& 1) = 1) (c61 : ¬ (b2i (x10 < 0)) = 0) (e78 : ((61 * ((-1) - x10)) + x11) = nI n78) (h78 : n78 < 976) (k : Lb K G w0 Q 12 35 [(0, .ref (xa σ 0)), (1, .int x1), (2, .int x2), (3, .int x3), (4, .int x4), (5, .long (x5 ||| (xl σ 10 n78))), (7, .long x7), (9, .int x9), (10, .int x10), (11, .int (x11 + 1))] [] (WM G σ) 0 0) : Lb K G w0 Q 12 35 [(0, .ref (xa σ 0)), (1, .int x1), (2, .int x2), (3, .int x3), (4, .int x4), (5, .long x5), (7, .long x7), (9, .int x9), (10, .int x10), (11, .int x11)] [] (WM G σ) 0 0 := by
  refine b_iload X d_M_nextAlong_35 9 rfl ?_
  refine b_iload X d_M_nextAlong_37 4 rfl ?_
  refine b_icmp_gt X (tgt := 106) d_M_nextAlong_39 (by decide) (fun h => absurd h c39) (fun _ => ?_)
  refine b_lload X d_M_nextAlong_42 6 rfl ?_
  refine b_iload X d_M_nextAlong_44 9 rfl ?_
  refine b_lshr X (v := (shrL x7 x11)) d_M_nextAlong_46 rfl ?_
  refine b_lconst X (v := 1) d_M_nextAlong_47 rfl ?_
  refine b_land X d_M_nextAlong_48 ?_
  refine b_lconst X (v := 1) d_M_nextAlong_49 rfl ?_
  refine b_l_ne X (tgt := 100) d_M_nextAlong_50 d_M_nextAlong_51 (by decide) (fun h => absurd c50 h) (fun _ => ?_)
  refine b_lload X d_M_nextAlong_54 5 rfl ?_
  refine b_iload X d_M_nextAlong_56 8 rfl ?_
  refine b_dS X cf_M_isRule ci_M_isRule ml_M_85 (ct_M_isRule G σ x10) (As := [.int x10]) (rest := [.long x5]) rfl (Nat.le_of_ble_eq_true rfl) ⟨Nat.le_of_ble_eq_true rfl, Nat.le_of_ble_eq_true rfl⟩ ⟨Nat.le_of_ble_eq_true rfl, Nat.le_of_ble_eq_true rfl⟩ rfl rfl d_M_nextAlong_58 ?_
  refine b_if_eq X (tgt := 82) d_M_nextAlong_61 (by decide) (fun h => absurd h c61) (fun _ => ?_)
  refine b_aload_n X d_M_nextAlong_64 0 rfl rfl ?_
  refine b_get X fl_M_39 0 rfl (v := .ref (xa σ 10)) rfl d_M_nextAlong_65 ?_
  refine b_bipush X (v := 61) d_M_nextAlong_68 (by decide) ?_
  refine b_iconst X (v := (-1)) d_M_nextAlong_70 (by decide) ?_
  refine b_iload X d_M_nextAlong_71 8 rfl ?_
  refine b_isub X d_M_nextAlong_73 ?_
  refine b_imul X d_M_nextAlong_74 ?_
  refine b_iload X d_M_nextAlong_75 9 rfl ?_
  refine b_iadd X d_M_nextAlong_77 ?_
  refine b_lald X 10 rfl (by decide) n78 e78 h78 d_M_nextAlong_78 ?_
  refine b_goto X (tgt := 97) d_M_nextAlong_79 (by decide) ?_
  refine b_lor X d_M_nextAlong_97 ?_
  refine b_lstore X (lv' := [(0, .ref (xa σ 0)), (1, .int x1), (2, .int x2), (3, .int x3), (4, .int x4), (5, .long (x5 ||| (xl σ 10 n78))), (7, .long x7), (9, .int x9), (10, .int x10), (11, .int x11)]) d_M_nextAlong_98 (by decide) [1, 2, 3, 4, 5, 0, 6, 7, 8, 9] rfl ?_
  refine b_iinc X (lv' := [(0, .ref (xa σ 0)), (1, .int x1), (2, .int x2), (3, .int x3), (4, .int x4), (5, .long (x5 ||| (xl σ 10 n78))), (7, .long x7), (9, .int x9), (10, .int x10), (11, .int (x11 + 1))]) d_M_nextAlong_100 9 rfl (v := (x11 + 1)) rfl (by decide) [1, 2, 3, 4, 5, 6, 7, 8, 9, 0] rfl ?_
  refine b_goto X (tgt := 35) d_M_nextAlong_103 (by decide) ?_
  exact k
theorem ct_M_expected_tt (G : GG) (σ : St) (x1 : Int32) (r2 : Int32) (q2 : Sq) (t2 : Ct y_M_faultOf c_M_faultOf 4 (some .int) rm_M_faultOf G [.ref (xa σ 0)] (WM G σ) (eqp (some (.int r2)) (WM G (xa σ, q2)))) (c5 : r2 = 0) (c13 : x1 < 0) : Ct y_M_expected c_M_expected 2 (some .long) rm_M_expected G [.ref (xa σ 0), .int x1] (WM G σ) (eqp (some (.long 0)) (WM G (wi (xa σ, q2) 0 0 2))) := by
  refine Ct.of (by decide +kernel) (Nat.le_of_ble_eq_true rfl) (fun K X => ?_)
  show Lb K G _ _ 2 0 [(0, .ref (xa σ 0)), (1, .int x1)] [] _ 0 0
  refine b_aload_n X d_M_expected_0 0 rfl rfl ?_
  refine b_aload_n X d_M_expected_1 0 rfl rfl ?_
  refine b_dV X cf_M_faultOf ci_M_faultOf ml_M_151 t2 0 rfl rfl (As := []) (rest := [.ref (xa σ 0)]) rfl (Nat.le_of_ble_eq_true rfl) ⟨Nat.le_of_ble_eq_true rfl, Nat.le_of_ble_eq_true rfl⟩ ⟨Nat.le_of_ble_eq_true rfl, Nat.le_of_ble_eq_true rfl⟩ rfl rfl d_M_expected_2 ?_
  refine b_if_eq X (tgt := 12) d_M_expected_5 (by decide) (fun _ => ?_) (fun h => absurd c5 h)
  refine b_iload_n X d_M_expected_12 1 rfl rfl ?_
  refine b_if_lt X (tgt := 24) d_M_expected_13 (by decide) (fun _ => ?_) (fun h => absurd c13 h)
  refine b_iconst X (v := 2) d_M_expected_24 (by decide) ?_
  refine b_goto X (tgt := 29) d_M_expected_25 (by decide) ?_
  refine b_put X fl_M_73 pl_M_thrown 0 rfl rfl rfl (Nat.le_of_ble_eq_true rfl) (uWM_0_thrown G (xa σ, q2) 2) d_M_expected_29 ?_
  refine b_aload_n X d_M_expected_32 0 rfl rfl ?_
  refine b_get X fl_M_73 0 rfl (v := .int 2) rfl d_M_expected_33 ?_
  refine b_if_le X (tgt := 41) d_M_expected_36 (by decide) (fun h => absurd h (by decide)) (fun _ => ?_)
  refine b_lconst X (v := 0) d_M_expected_39 rfl ?_
  exact b_lret X d_M_expected_40 ⟨rfl, rfl⟩
theorem ct_M_expected_tftt (G : GG) (σ : St) (x1 : Int32) (r2 : Int32) (q2 : Sq) (q42 : Sq) (q47 : Sq) (t2 : Ct y_M_faultOf c_M_faultOf 4 (some .int) rm_M_faultOf G [.ref (xa σ 0)] (WM G σ) (eqp (some (.int r2)) (WM G (xa σ, q2)))) (c5 : r2 = 0) (c13 : ¬ x1 < 0) (c21 : x1 ≤ (xi (xa σ, q2) 0 3)) (t42 : Ct y_M_findPlaces c_M_findPlaces 8 none rm_M_findPlaces G [.ref (xa σ 0)] (WM G (wi (xa σ, q2) 0 0 0)) (eqp (none) (WM G (xa σ, q42)))) (t47 : Ct y_M_findNexts c_M_findNexts 8 none rm_M_findNexts G [.ref (xa σ 0), .int x1] (WM G (xa σ, q42)) (eqp (none) (WM G (xa σ, q47)))) (c67 : ¬ ((shrL (xl (xa σ, q47) 8 0) x1) &&& 1) = 1) : Ct y_M_expected c_M_expected 2 (some .long) rm_M_expected G [.ref (xa σ 0), .int x1] (WM G σ) (eqp (some (.long ((xl (xa σ, q47) 10 0) ||| 0))) (WM G (xa σ, q47))) := by
  refine Ct.of (by decide +kernel) (Nat.le_of_ble_eq_true rfl) (fun K X => ?_)
  show Lb K G _ _ 2 0 [(0, .ref (xa σ 0)), (1, .int x1)] [] _ 0 0
  refine b_aload_n X d_M_expected_0 0 rfl rfl ?_
  refine b_aload_n X d_M_expected_1 0 rfl rfl ?_
  refine b_dV X cf_M_faultOf ci_M_faultOf ml_M_151 t2 0 rfl rfl (As := []) (rest := [.ref (xa σ 0)]) rfl (Nat.le_of_ble_eq_true rfl) ⟨Nat.le_of_ble_eq_true rfl, Nat.le_of_ble_eq_true rfl⟩ ⟨Nat.le_of_ble_eq_true rfl, Nat.le_of_ble_eq_true rfl⟩ rfl rfl d_M_expected_2 ?_
  refine b_if_eq X (tgt := 12) d_M_expected_5 (by decide) (fun _ => ?_) (fun h => absurd c5 h)
  refine b_iload_n X d_M_expected_12 1 rfl rfl ?_
  refine b_if_lt X (tgt := 24) d_M_expected_13 (by decide) (fun h => absurd h c13) (fun _ => ?_)
  refine b_iload_n X d_M_expected_16 1 rfl rfl ?_
  refine b_aload_n X d_M_expected_17 0 rfl rfl ?_
  refine b_get X fl_M_105 0 rfl (v := .int (xi (xa σ, q2) 0 3)) rfl d_M_expected_18 ?_
  refine b_icmp_le X (tgt := 28) d_M_expected_21 (by decide) (fun _ => ?_) (fun h => absurd c21 h)
  refine b_iconst X (v := 0) d_M_expected_28 (by decide) ?_
  refine b_put X fl_M_73 pl_M_thrown 0 rfl rfl rfl (Nat.le_of_ble_eq_true rfl) (uWM_0_thrown G (xa σ, q2) 0) d_M_expected_29 ?_
  refine b_aload_n X d_M_expected_32 0 rfl rfl ?_
  refine b_get X fl_M_73 0 rfl (v := .int 0) rfl d_M_expected_33 ?_
  refine b_if_le X (tgt := 41) d_M_expected_36 (by decide) (fun _ => ?_) (fun h => absurd h (by decide))
  refine b_aload_n X d_M_expected_41 0 rfl rfl ?_
  refine b_dV X cf_M_findPlaces ci_M_findPlaces ml_M_155 t42 0 rfl rfl (As := []) (rest := []) rfl (Nat.le_of_ble_eq_true rfl) ⟨Nat.le_of_ble_eq_true rfl, Nat.le_of_ble_eq_true rfl⟩ ⟨Nat.le_of_ble_eq_true rfl, Nat.le_of_ble_eq_true rfl⟩ rfl rfl d_M_expected_42 ?_
  refine b_aload_n X d_M_expected_45 0 rfl rfl ?_
  refine b_iload_n X d_M_expected_46 1 rfl rfl ?_
  refine b_dV X cf_M_findNexts ci_M_findNexts ml_M_175 t47 0 rfl rfl (As := [.int x1]) (rest := []) rfl (Nat.le_of_ble_eq_true rfl) ⟨Nat.le_of_ble_eq_true rfl, Nat.le_of_ble_eq_true rfl⟩ ⟨Nat.le_of_ble_eq_true rfl, Nat.le_of_ble_eq_true rfl⟩ rfl rfl d_M_expected_47 ?_
  refine b_aload_n X d_M_expected_50 0 rfl rfl ?_
  refine b_get X fl_M_39 0 rfl (v := .ref (xa σ 10)) rfl d_M_expected_51 ?_
  refine b_iconst X (v := 0) d_M_expected_54 (by decide) ?_
  refine b_lald X 10 rfl (by decide) 0 (by decide) (by decide) d_M_expected_55 ?_
  refine b_aload_n X d_M_expected_56 0 rfl rfl ?_
  refine b_get X fl_M_32 0 rfl (v := .ref (xa σ 8)) rfl d_M_expected_57 ?_
  refine b_iconst X (v := 0) d_M_expected_60 (by decide) ?_
  refine b_lald X 8 rfl (by decide) 0 (by decide) (by decide) d_M_expected_61 ?_
  refine b_iload_n X d_M_expected_62 1 rfl rfl ?_
  refine b_lshr X (v := (shrL (xl (xa σ, q47) 8 0) x1)) d_M_expected_63 rfl ?_
  refine b_lconst X (v := 1) d_M_expected_64 rfl ?_
  refine b_land X d_M_expected_65 ?_
  refine b_lconst X (v := 1) d_M_expected_66 rfl ?_
  refine b_l_ne X (tgt := 77) d_M_expected_67 d_M_expected_68 (by decide) (fun _ => ?_) (fun h => absurd h c67)
  refine b_lconst X (v := 0) d_M_expected_77 rfl ?_
  refine b_lor X d_M_expected_78 ?_
  exact b_lret X d_M_expected_79 ⟨rfl, rfl⟩
theorem ct_M_expected_tftf (G : GG) (σ : St) (x1 : Int32) (r2 : Int32) (q2 : Sq) (q42 : Sq) (q47 : Sq) (t2 : Ct y_M_faultOf c_M_faultOf 4 (some .int) rm_M_faultOf G [.ref (xa σ 0)] (WM G σ) (eqp (some (.int r2)) (WM G (xa σ, q2)))) (c5 : r2 = 0) (c13 : ¬ x1 < 0) (c21 : x1 ≤ (xi (xa σ, q2) 0 3)) (t42 : Ct y_M_findPlaces c_M_findPlaces 8 none rm_M_findPlaces G [.ref (xa σ 0)] (WM G (wi (xa σ, q2) 0 0 0)) (eqp (none) (WM G (xa σ, q42)))) (t47 : Ct y_M_findNexts c_M_findNexts 8 none rm_M_findNexts G [.ref (xa σ 0), .int x1] (WM G (xa σ, q42)) (eqp (none) (WM G (xa σ, q47)))) (c67 : ((shrL (xl (xa σ, q47) 8 0) x1) &&& 1) = 1) : Ct y_M_expected c_M_expected 2 (some .long) rm_M_expected G [.ref (xa σ 0), .int x1] (WM G σ) (eqp (some (.long ((xl (xa σ, q47) 10 0) ||| 4294967296))) (WM G (xa σ, q47))) := by
  refine Ct.of (by decide +kernel) (Nat.le_of_ble_eq_true rfl) (fun K X => ?_)
  show Lb K G _ _ 2 0 [(0, .ref (xa σ 0)), (1, .int x1)] [] _ 0 0
  refine b_aload_n X d_M_expected_0 0 rfl rfl ?_
  refine b_aload_n X d_M_expected_1 0 rfl rfl ?_
  refine b_dV X cf_M_faultOf ci_M_faultOf ml_M_151 t2 0 rfl rfl (As := []) (rest := [.ref (xa σ 0)]) rfl (Nat.le_of_ble_eq_true rfl) ⟨Nat.le_of_ble_eq_true rfl, Nat.le_of_ble_eq_true rfl⟩ ⟨Nat.le_of_ble_eq_true rfl, Nat.le_of_ble_eq_true rfl⟩ rfl rfl d_M_expected_2 ?_
  refine b_if_eq X (tgt := 12) d_M_expected_5 (by decide) (fun _ => ?_) (fun h => absurd c5 h)
  refine b_iload_n X d_M_expected_12 1 rfl rfl ?_
  refine b_if_lt X (tgt := 24) d_M_expected_13 (by decide) (fun h => absurd h c13) (fun _ => ?_)
  refine b_iload_n X d_M_expected_16 1 rfl rfl ?_
  refine b_aload_n X d_M_expected_17 0 rfl rfl ?_
  refine b_get X fl_M_105 0 rfl (v := .int (xi (xa σ, q2) 0 3)) rfl d_M_expected_18 ?_
  refine b_icmp_le X (tgt := 28) d_M_expected_21 (by decide) (fun _ => ?_) (fun h => absurd c21 h)
  refine b_iconst X (v := 0) d_M_expected_28 (by decide) ?_
  refine b_put X fl_M_73 pl_M_thrown 0 rfl rfl rfl (Nat.le_of_ble_eq_true rfl) (uWM_0_thrown G (xa σ, q2) 0) d_M_expected_29 ?_
  refine b_aload_n X d_M_expected_32 0 rfl rfl ?_
  refine b_get X fl_M_73 0 rfl (v := .int 0) rfl d_M_expected_33 ?_
  refine b_if_le X (tgt := 41) d_M_expected_36 (by decide) (fun _ => ?_) (fun h => absurd h (by decide))
  refine b_aload_n X d_M_expected_41 0 rfl rfl ?_
  refine b_dV X cf_M_findPlaces ci_M_findPlaces ml_M_155 t42 0 rfl rfl (As := []) (rest := []) rfl (Nat.le_of_ble_eq_true rfl) ⟨Nat.le_of_ble_eq_true rfl, Nat.le_of_ble_eq_true rfl⟩ ⟨Nat.le_of_ble_eq_true rfl, Nat.le_of_ble_eq_true rfl⟩ rfl rfl d_M_expected_42 ?_
  refine b_aload_n X d_M_expected_45 0 rfl rfl ?_
  refine b_iload_n X d_M_expected_46 1 rfl rfl ?_
  refine b_dV X cf_M_findNexts ci_M_findNexts ml_M_175 t47 0 rfl rfl (As := [.int x1]) (rest := []) rfl (Nat.le_of_ble_eq_true rfl) ⟨Nat.le_of_ble_eq_true rfl, Nat.le_of_ble_eq_true rfl⟩ ⟨Nat.le_of_ble_eq_true rfl, Nat.le_of_ble_eq_true rfl⟩ rfl rfl d_M_expected_47 ?_
  refine b_aload_n X d_M_expected_50 0 rfl rfl ?_
  refine b_get X fl_M_39 0 rfl (v := .ref (xa σ 10)) rfl d_M_expected_51 ?_
  refine b_iconst X (v := 0) d_M_expected_54 (by decide) ?_
  refine b_lald X 10 rfl (by decide) 0 (by decide) (by decide) d_M_expected_55 ?_
  refine b_aload_n X d_M_expected_56 0 rfl rfl ?_
  refine b_get X fl_M_32 0 rfl (v := .ref (xa σ 8)) rfl d_M_expected_57 ?_
  refine b_iconst X (v := 0) d_M_expected_60 (by decide) ?_
  refine b_lald X 8 rfl (by decide) 0 (by decide) (by decide) d_M_expected_61 ?_
  refine b_iload_n X d_M_expected_62 1 rfl rfl ?_
  refine b_lshr X (v := (shrL (xl (xa σ, q47) 8 0) x1)) d_M_expected_63 rfl ?_
  refine b_lconst X (v := 1) d_M_expected_64 rfl ?_
  refine b_land X d_M_expected_65 ?_
  refine b_lconst X (v := 1) d_M_expected_66 rfl ?_
  refine b_l_ne X (tgt := 77) d_M_expected_67 d_M_expected_68 (by decide) (fun h => absurd c67 h) (fun _ => ?_)
  refine b_ldc2 X (v := 4294967296) kl_M_179 d_M_expected_71 ?_
  refine b_goto X (tgt := 78) d_M_expected_74 (by decide) ?_
  refine b_lor X d_M_expected_78 ?_
  exact b_lret X d_M_expected_79 ⟨rfl, rfl⟩
theorem ct_M_expected_tff (G : GG) (σ : St) (x1 : Int32) (r2 : Int32) (q2 : Sq) (t2 : Ct y_M_faultOf c_M_faultOf 4 (some .int) rm_M_faultOf G [.ref (xa σ 0)] (WM G σ) (eqp (some (.int r2)) (WM G (xa σ, q2)))) (c5 : r2 = 0) (c13 : ¬ x1 < 0) (c21 : ¬ x1 ≤ (xi (xa σ, q2) 0 3)) : Ct y_M_expected c_M_expected 2 (some .long) rm_M_expected G [.ref (xa σ 0), .int x1] (WM G σ) (eqp (some (.long 0)) (WM G (wi (xa σ, q2) 0 0 2))) := by
  refine Ct.of (by decide +kernel) (Nat.le_of_ble_eq_true rfl) (fun K X => ?_)
  show Lb K G _ _ 2 0 [(0, .ref (xa σ 0)), (1, .int x1)] [] _ 0 0
  refine b_aload_n X d_M_expected_0 0 rfl rfl ?_
  refine b_aload_n X d_M_expected_1 0 rfl rfl ?_
  refine b_dV X cf_M_faultOf ci_M_faultOf ml_M_151 t2 0 rfl rfl (As := []) (rest := [.ref (xa σ 0)]) rfl (Nat.le_of_ble_eq_true rfl) ⟨Nat.le_of_ble_eq_true rfl, Nat.le_of_ble_eq_true rfl⟩ ⟨Nat.le_of_ble_eq_true rfl, Nat.le_of_ble_eq_true rfl⟩ rfl rfl d_M_expected_2 ?_
  refine b_if_eq X (tgt := 12) d_M_expected_5 (by decide) (fun _ => ?_) (fun h => absurd c5 h)
  refine b_iload_n X d_M_expected_12 1 rfl rfl ?_
  refine b_if_lt X (tgt := 24) d_M_expected_13 (by decide) (fun h => absurd h c13) (fun _ => ?_)
  refine b_iload_n X d_M_expected_16 1 rfl rfl ?_
  refine b_aload_n X d_M_expected_17 0 rfl rfl ?_
  refine b_get X fl_M_105 0 rfl (v := .int (xi (xa σ, q2) 0 3)) rfl d_M_expected_18 ?_
  refine b_icmp_le X (tgt := 28) d_M_expected_21 (by decide) (fun h => absurd h c21) (fun _ => ?_)
  refine b_iconst X (v := 2) d_M_expected_24 (by decide) ?_
  refine b_goto X (tgt := 29) d_M_expected_25 (by decide) ?_
  refine b_put X fl_M_73 pl_M_thrown 0 rfl rfl rfl (Nat.le_of_ble_eq_true rfl) (uWM_0_thrown G (xa σ, q2) 2) d_M_expected_29 ?_
  refine b_aload_n X d_M_expected_32 0 rfl rfl ?_
  refine b_get X fl_M_73 0 rfl (v := .int 2) rfl d_M_expected_33 ?_
  refine b_if_le X (tgt := 41) d_M_expected_36 (by decide) (fun h => absurd h (by decide)) (fun _ => ?_)
  refine b_lconst X (v := 0) d_M_expected_39 rfl ?_
  exact b_lret X d_M_expected_40 ⟨rfl, rfl⟩
theorem ct_M_expected_f (G : GG) (σ : St) (x1 : Int32) (r2 : Int32) (q2 : Sq) (t2 : Ct y_M_faultOf c_M_faultOf 4 (some .int) rm_M_faultOf G [.ref (xa σ 0)] (WM G σ) (eqp (some (.int r2)) (WM G (xa σ, q2)))) (c5 : ¬ r2 = 0) : Ct y_M_expected c_M_expected 2 (some .long) rm_M_expected G [.ref (xa σ 0), .int x1] (WM G σ) (eqp (some (.long 0)) (WM G (wi (xa σ, q2) 0 0 1))) := by
  refine Ct.of (by decide +kernel) (Nat.le_of_ble_eq_true rfl) (fun K X => ?_)
  show Lb K G _ _ 2 0 [(0, .ref (xa σ 0)), (1, .int x1)] [] _ 0 0
  refine b_aload_n X d_M_expected_0 0 rfl rfl ?_
  refine b_aload_n X d_M_expected_1 0 rfl rfl ?_
  refine b_dV X cf_M_faultOf ci_M_faultOf ml_M_151 t2 0 rfl rfl (As := []) (rest := [.ref (xa σ 0)]) rfl (Nat.le_of_ble_eq_true rfl) ⟨Nat.le_of_ble_eq_true rfl, Nat.le_of_ble_eq_true rfl⟩ ⟨Nat.le_of_ble_eq_true rfl, Nat.le_of_ble_eq_true rfl⟩ rfl rfl d_M_expected_2 ?_
  refine b_if_eq X (tgt := 12) d_M_expected_5 (by decide) (fun h => absurd h c5) (fun _ => ?_)
  refine b_iconst X (v := 1) d_M_expected_8 (by decide) ?_
  refine b_goto X (tgt := 29) d_M_expected_9 (by decide) ?_
  refine b_put X fl_M_73 pl_M_thrown 0 rfl rfl rfl (Nat.le_of_ble_eq_true rfl) (uWM_0_thrown G (xa σ, q2) 1) d_M_expected_29 ?_
  refine b_aload_n X d_M_expected_32 0 rfl rfl ?_
  refine b_get X fl_M_73 0 rfl (v := .int 1) rfl d_M_expected_33 ?_
  refine b_if_le X (tgt := 41) d_M_expected_36 (by decide) (fun h => absurd h (by decide)) (fun _ => ?_)
  refine b_lconst X (v := 0) d_M_expected_39 rfl ?_
  exact b_lret X d_M_expected_40 ⟨rfl, rfl⟩
theorem sg_M_firstOf_0_9 {K : KX} {G : GG} {w0 : va_W} {Q : State → Prop} (X : Bd K G w0 "FirstTreesModel" c_M_firstOf 9 (some .long) rm_M_firstOf) (σ : St) (x1 : Int32) (x2 : Int32) (x3 : Int32)   (k : Lb K G w0 Q 9 9 [(0, .ref (xa σ 0)), (1, .int x1), (2, .int x2), (3, .int x3), (4, .long 0), (6, .int 1), (7, .int x3)] [] (WM G σ) 0 0) : Lb K G w0 Q 9 0 [(0, .ref (xa σ 0)), (1, .int x1), (2, .int x2), (3, .int x3)] [] (WM G σ) 0 0 := by
  refine b_lconst X (v := 0) d_M_firstOf_0 rfl ?_
  refine b_lstore X (lv' := [(0, .ref (xa σ 0)), (1, .int x1), (2, .int x2), (3, .int x3), (4, .long 0)]) d_M_firstOf_1 (by decide) [1, 2, 3, 4, 0] rfl ?_
  refine b_iconst X (v := 1) d_M_firstOf_3 (by decide) ?_
  refine b_istore X (lv' := [(0, .ref (xa σ 0)), (1, .int x1), (2, .int x2), (3, .int x3), (4, .long 0), (6, .int 1)]) d_M_firstOf_4 (by decide) [1, 2, 3, 4, 5, 0] rfl ?_
  refine b_iload_n X d_M_firstOf_6 3 rfl rfl ?_
  refine b_istore X (lv' := [(0, .ref (xa σ 0)), (1, .int x1), (2, .int x2), (3, .int x3), (4, .long 0), (6, .int 1), (7, .int x3)]) d_M_firstOf_7 (by decide) [1, 2, 3, 4, 5, 6, 0] rfl ?_
  exact k
theorem sg_M_firstOf_9_tr {K : KX} {G : GG} {w0 : va_W} {post : PostT} (X : Bd K G w0 "FirstTreesModel" c_M_firstOf 9 (some .long) rm_M_firstOf) (σ : St) (x1 : Int32) (x2 : Int32) (x3 : Int32) (x4 : Int64) (x6 : Int32) (x7 : Int32) (n14 : Nat) (e14 : ((8 * x1) + x2) = nI n14) (h14 : n14 < 128) (c17 : (xi σ 2 n14) ≤ x7) (hp : post (some (.long x4)) (WM G σ)) : Lb K G w0 (Qe K G w0 post rm_M_firstOf) 9 9 [(0, .ref (xa σ 0)), (1, .int x1), (2, .int x2), (3, .int x3), (4, .long x4), (6, .int x6), (7, .int x7)] [] (WM G σ) 0 0 := by
  refine b_iload X d_M_firstOf_9 6 rfl ?_
  refine b_aload_n X d_M_firstOf_11 0 rfl rfl ?_
  refine b_iload_n X d_M_firstOf_12 1 rfl rfl ?_
  refine b_iload_n X d_M_firstOf_13 2 rfl rfl ?_
  refine b_dV X cf_M_sizeOf ci_M_sizeOf ml_M_77 (ct_M_sizeOf_ G σ x1 x2 n14 e14 h14) 0 rfl rfl (As := [.int x1, .int x2]) (rest := [.int x7]) rfl (Nat.le_of_ble_eq_true rfl) ⟨Nat.le_of_ble_eq_true rfl, Nat.le_of_ble_eq_true rfl⟩ ⟨Nat.le_of_ble_eq_true rfl, Nat.le_of_ble_eq_true rfl⟩ rfl rfl d_M_firstOf_14 ?_
  refine b_icmp_ge X (tgt := 97) d_M_firstOf_17 (by decide) (fun _ => ?_) (fun h => absurd c17 h)
  refine b_lload X d_M_firstOf_97 4 rfl ?_
  exact b_lret X d_M_firstOf_99 hp
theorem sg_M_firstOf_9_ftr {K : KX} {G : GG} {w0 : va_W} {post : PostT} (X : Bd K G w0 "FirstTreesModel" c_M_firstOf 9 (some .long) rm_M_firstOf) (σ : St) (x1 : Int32) (x2 : Int32) (x3 : Int32) (x4 : Int64) (x6 : Int32) (x7 : Int32) (n14 : Nat) (e14 : ((8 * x1) + x2) = nI n14) (h14 : n14 < 128) (c17 : ¬ (xi σ 2 n14) ≤ x7) (c22 : x6 = 0) (hp : post (some (.long x4)) (WM G σ)) : Lb K G w0 (Qe K G w0 post rm_M_firstOf) 9 9 [(0, .ref (xa σ 0)), (1, .int x1), (2, .int x2), (3, .int x3), (4, .long x4), (6, .int x6), (7, .int x7)] [] (WM G σ) 0 0 := by
  refine b_iload X d_M_firstOf_9 6 rfl ?_
  refine b_aload_n X d_M_firstOf_11 0 rfl rfl ?_
  refine b_iload_n X d_M_firstOf_12 1 rfl rfl ?_
  refine b_iload_n X d_M_firstOf_13 2 rfl rfl ?_
  refine b_dV X cf_M_sizeOf ci_M_sizeOf ml_M_77 (ct_M_sizeOf_ G σ x1 x2 n14 e14 h14) 0 rfl rfl (As := [.int x1, .int x2]) (rest := [.int x7]) rfl (Nat.le_of_ble_eq_true rfl) ⟨Nat.le_of_ble_eq_true rfl, Nat.le_of_ble_eq_true rfl⟩ ⟨Nat.le_of_ble_eq_true rfl, Nat.le_of_ble_eq_true rfl⟩ rfl rfl d_M_firstOf_14 ?_
  refine b_icmp_ge X (tgt := 97) d_M_firstOf_17 (by decide) (fun h => absurd h c17) (fun _ => ?_)
  refine b_iload X d_M_firstOf_20 5 rfl ?_
  refine b_if_eq X (tgt := 97) d_M_firstOf_22 (by decide) (fun _ => ?_) (fun h => absurd c22 h)
  refine b_lload X d_M_firstOf_97 4 rfl ?_
  exact b_lret X d_M_firstOf_99 hp
theorem sg_M_firstOf_9_fftt9 {K : KX} {G : GG} {w0 : va_W} {Q : State → Prop} (X : Bd K G w0 "FirstTreesModel" c_M_firstOf 9 (some .long) rm_M_firstOf) (σ : St) (x1 : Int32) (x2 : Int32) (x3 : Int32) (x4 : Int64) (x6 : Int32) (x7 : Int32) (n14 : Nat) (n30 : Nat) (e14 : ((8 * x1) + x2) = nI n14) (h14 : n14 < 128) (c17 : ¬ (xi σ 2 n14) ≤ x7) (c22 : ¬ x6 = 0) (e30 : (((64 * x1) + (8 * x2)) + x7) = nI n30) (h30 : n30 < 1024) (c42 : (b2i ((xi σ 3 n30) < 0)) = 0) (c69 : (b2i ((xi σ 3 n30) < 0)) = 0) (k : Lb K G w0 Q 9 9 [(0, .ref (xa σ 0)), (1, .int x1), (2, .int x2), (3, .int x3), (4, .long (x4 ||| (shlL 1 (xi σ 3 n30)))), (6, .int 0), (7, .int (x7 + 1))] [] (WM G σ) 0 0) : Lb K G w0 Q 9 9 [(0, .ref (xa σ 0)), (1, .int x1), (2, .int x2), (3, .int x3), (4, .long x4), (6, .int x6), (7, .int x7)] [] (WM G σ) 0 0 := by
  refine b_iload X d_M_firstOf_9 6 rfl ?_
  refine b_aload_n X d_M_firstOf_11 0 rfl rfl ?_
  refine b_iload_n X d_M_firstOf_12 1 rfl rfl ?_
  refine b_iload_n X d_M_firstOf_13 2 rfl rfl ?_
  refine b_dV X cf_M_sizeOf ci_M_sizeOf ml_M_77 (ct_M_sizeOf_ G σ x1 x2 n14 e14 h14) 0 rfl rfl (As := [.int x1, .int x2]) (rest := [.int x7]) rfl (Nat.le_of_ble_eq_true rfl) ⟨Nat.le_of_ble_eq_true rfl, Nat.le_of_ble_eq_true rfl⟩ ⟨Nat.le_of_ble_eq_true rfl, Nat.le_of_ble_eq_true rfl⟩ rfl rfl d_M_firstOf_14 ?_
  refine b_icmp_ge X (tgt := 97) d_M_firstOf_17 (by decide) (fun h => absurd h c17) (fun _ => ?_)
  refine b_iload X d_M_firstOf_20 5 rfl ?_
  refine b_if_eq X (tgt := 97) d_M_firstOf_22 (by decide) (fun h => absurd h c22) (fun _ => ?_)
  refine b_aload_n X d_M_firstOf_25 0 rfl rfl ?_
  refine b_iload_n X d_M_firstOf_26 1 rfl rfl ?_
  refine b_iload_n X d_M_firstOf_27 2 rfl rfl ?_
  refine b_iload X d_M_firstOf_28 6 rfl ?_
  refine b_dV X cf_M_symbolAt ci_M_symbolAt ml_M_81 (ct_M_symbolAt_ G σ x1 x2 x7 n30 e30 h30) 0 rfl rfl (As := [.int x1, .int x2, .int x7]) (rest := []) rfl (Nat.le_of_ble_eq_true rfl) ⟨Nat.le_of_ble_eq_true rfl, Nat.le_of_ble_eq_true rfl⟩ ⟨Nat.le_of_ble_eq_true rfl, Nat.le_of_ble_eq_true rfl⟩ rfl rfl d_M_firstOf_30 ?_
  refine b_istore X (lv' := [(0, .ref (xa σ 0)), (1, .int x1), (2, .int x2), (3, .int x3), (4, .long x4), (6, .int x6), (7, .int x7), (8, .int (xi σ 3 n30))]) d_M_firstOf_33 (by decide) [1, 2, 3, 4, 5, 6, 7, 0] rfl ?_
  refine b_lload X d_M_firstOf_35 4 rfl ?_
  refine b_iload X d_M_firstOf_37 7 rfl ?_
  refine b_dS X cf_M_isRule ci_M_isRule ml_M_85 (ct_M_isRule G σ (xi σ 3 n30)) (As := [.int (xi σ 3 n30)]) (rest := [.long x4]) rfl (Nat.le_of_ble_eq_true rfl) ⟨Nat.le_of_ble_eq_true rfl, Nat.le_of_ble_eq_true rfl⟩ ⟨Nat.le_of_ble_eq_true rfl, Nat.le_of_ble_eq_true rfl⟩ rfl rfl d_M_firstOf_39 ?_
  refine b_if_eq X (tgt := 57) d_M_firstOf_42 (by decide) (fun _ => ?_) (fun h => absurd c42 h)
  refine b_lconst X (v := 1) d_M_firstOf_57 rfl ?_
  refine b_iload X d_M_firstOf_58 7 rfl ?_
  refine b_lshl X (v := (shlL 1 (xi σ 3 n30))) d_M_firstOf_60 rfl ?_
  refine b_lor X d_M_firstOf_61 ?_
  refine b_lstore X (lv' := [(0, .ref (xa σ 0)), (1, .int x1), (2, .int x2), (3, .int x3), (4, .long (x4 ||| (shlL 1 (xi σ 3 n30)))), (6, .int x6), (7, .int x7), (8, .int (xi σ 3 n30))]) d_M_firstOf_62 (by decide) [1, 2, 3, 4, 0, 5, 6, 7] rfl ?_
  refine b_iload X d_M_firstOf_64 7 rfl ?_
  refine b_dS X cf_M_isRule ci_M_isRule ml_M_85 (ct_M_isRule G σ (xi σ 3 n30)) (As := [.int (xi σ 3 n30)]) (rest := []) rfl (Nat.le_of_ble_eq_true rfl) ⟨Nat.le_of_ble_eq_true rfl, Nat.le_of_ble_eq_true rfl⟩ ⟨Nat.le_of_ble_eq_true rfl, Nat.le_of_ble_eq_true rfl⟩ rfl rfl d_M_firstOf_66 ?_
  refine b_if_eq X (tgt := 88) d_M_firstOf_69 (by decide) (fun _ => ?_) (fun h => absurd c69 h)
  refine b_iconst X (v := 0) d_M_firstOf_88 (by decide) ?_
  refine b_istore X (lv' := [(0, .ref (xa σ 0)), (1, .int x1), (2, .int x2), (3, .int x3), (4, .long (x4 ||| (shlL 1 (xi σ 3 n30)))), (6, .int 0), (7, .int x7), (8, .int (xi σ 3 n30))]) d_M_firstOf_89 (by decide) [1, 2, 3, 4, 5, 0, 6, 7] rfl ?_
  refine b_iinc X (lv' := [(0, .ref (xa σ 0)), (1, .int x1), (2, .int x2), (3, .int x3), (4, .long (x4 ||| (shlL 1 (xi σ 3 n30)))), (6, .int 0), (7, .int (x7 + 1)), (8, .int (xi σ 3 n30))]) d_M_firstOf_91 6 rfl (v := (x7 + 1)) rfl (by decide) [1, 2, 3, 4, 5, 6, 0, 7] rfl ?_
  refine b_goto X (tgt := 9) d_M_firstOf_94 (by decide) ?_
  refine Lb.pick (lv' := [(0, .ref (xa σ 0)), (1, .int x1), (2, .int x2), (3, .int x3), (4, .long (x4 ||| (shlL 1 (xi σ 3 n30)))), (6, .int 0), (7, .int (x7 + 1))]) [0, 1, 2, 3, 4, 5, 6] rfl ?_
  exact k
theorem sg_M_firstOf_9_fftft9 {K : KX} {G : GG} {w0 : va_W} {Q : State → Prop} (X : Bd K G w0 "FirstTreesModel" c_M_firstOf 9 (some .long) rm_M_firstOf) (σ : St) (x1 : Int32) (x2 : Int32) (x3 : Int32) (x4 : Int64) (x6 : Int32) (x7 : Int32) (n14 : Nat) (n30 : Nat) (n80 : Nat) (e14 : ((8 * x1) + x2) = nI n14) (h14 : n14 < 128) (c17 : ¬ (xi σ 2 n14) ≤ x7) (c22 : ¬ x6 = 0) (e30 : (((64 * x1) + (8 * x2)) + x7) = nI n30) (h30 : n30 < 1024) (c42 : (b2i ((xi σ 3 n30) < 0)) = 0) (c69 : ¬ (b2i ((xi σ 3 n30) < 0)) = 0) (e80 : ((-1) - (xi σ 3 n30)) = nI n80) (h80 : n80 < 16) (c81 : (xi σ 4 n80) = 0) (k : Lb K G w0 Q 9 9 [(0, .ref (xa σ 0)), (1, .int x1), (2, .int x2), (3, .int x3), (4, .long (x4 ||| (shlL 1 (xi σ 3 n30)))), (6, .int 0), (7, .int (x7 + 1))] [] (WM G σ) 0 0) : Lb K G w0 Q 9 9 [(0, .ref (xa σ 0)), (1, .int x1), (2, .int x2), (3, .int x3), (4, .long x4), (6, .int x6), (7, .int x7)] [] (WM G σ) 0 0 := by
  refine b_iload X d_M_firstOf_9 6 rfl ?_
  refine b_aload_n X d_M_firstOf_11 0 rfl rfl ?_
  refine b_iload_n X d_M_firstOf_12 1 rfl rfl ?_
  refine b_iload_n X d_M_firstOf_13 2 rfl rfl ?_
  refine b_dV X cf_M_sizeOf ci_M_sizeOf ml_M_77 (ct_M_sizeOf_ G σ x1 x2 n14 e14 h14) 0 rfl rfl (As := [.int x1, .int x2]) (rest := [.int x7]) rfl (Nat.le_of_ble_eq_true rfl) ⟨Nat.le_of_ble_eq_true rfl, Nat.le_of_ble_eq_true rfl⟩ ⟨Nat.le_of_ble_eq_true rfl, Nat.le_of_ble_eq_true rfl⟩ rfl rfl d_M_firstOf_14 ?_
  refine b_icmp_ge X (tgt := 97) d_M_firstOf_17 (by decide) (fun h => absurd h c17) (fun _ => ?_)
  refine b_iload X d_M_firstOf_20 5 rfl ?_
  refine b_if_eq X (tgt := 97) d_M_firstOf_22 (by decide) (fun h => absurd h c22) (fun _ => ?_)
  refine b_aload_n X d_M_firstOf_25 0 rfl rfl ?_
  refine b_iload_n X d_M_firstOf_26 1 rfl rfl ?_
  refine b_iload_n X d_M_firstOf_27 2 rfl rfl ?_
  refine b_iload X d_M_firstOf_28 6 rfl ?_
  refine b_dV X cf_M_symbolAt ci_M_symbolAt ml_M_81 (ct_M_symbolAt_ G σ x1 x2 x7 n30 e30 h30) 0 rfl rfl (As := [.int x1, .int x2, .int x7]) (rest := []) rfl (Nat.le_of_ble_eq_true rfl) ⟨Nat.le_of_ble_eq_true rfl, Nat.le_of_ble_eq_true rfl⟩ ⟨Nat.le_of_ble_eq_true rfl, Nat.le_of_ble_eq_true rfl⟩ rfl rfl d_M_firstOf_30 ?_
  refine b_istore X (lv' := [(0, .ref (xa σ 0)), (1, .int x1), (2, .int x2), (3, .int x3), (4, .long x4), (6, .int x6), (7, .int x7), (8, .int (xi σ 3 n30))]) d_M_firstOf_33 (by decide) [1, 2, 3, 4, 5, 6, 7, 0] rfl ?_
  refine b_lload X d_M_firstOf_35 4 rfl ?_
  refine b_iload X d_M_firstOf_37 7 rfl ?_
  refine b_dS X cf_M_isRule ci_M_isRule ml_M_85 (ct_M_isRule G σ (xi σ 3 n30)) (As := [.int (xi σ 3 n30)]) (rest := [.long x4]) rfl (Nat.le_of_ble_eq_true rfl) ⟨Nat.le_of_ble_eq_true rfl, Nat.le_of_ble_eq_true rfl⟩ ⟨Nat.le_of_ble_eq_true rfl, Nat.le_of_ble_eq_true rfl⟩ rfl rfl d_M_firstOf_39 ?_
  refine b_if_eq X (tgt := 57) d_M_firstOf_42 (by decide) (fun _ => ?_) (fun h => absurd c42 h)
  refine b_lconst X (v := 1) d_M_firstOf_57 rfl ?_
  refine b_iload X d_M_firstOf_58 7 rfl ?_
  refine b_lshl X (v := (shlL 1 (xi σ 3 n30))) d_M_firstOf_60 rfl ?_
  refine b_lor X d_M_firstOf_61 ?_
  refine b_lstore X (lv' := [(0, .ref (xa σ 0)), (1, .int x1), (2, .int x2), (3, .int x3), (4, .long (x4 ||| (shlL 1 (xi σ 3 n30)))), (6, .int x6), (7, .int x7), (8, .int (xi σ 3 n30))]) d_M_firstOf_62 (by decide) [1, 2, 3, 4, 0, 5, 6, 7] rfl ?_
  refine b_iload X d_M_firstOf_64 7 rfl ?_
  refine b_dS X cf_M_isRule ci_M_isRule ml_M_85 (ct_M_isRule G σ (xi σ 3 n30)) (As := [.int (xi σ 3 n30)]) (rest := []) rfl (Nat.le_of_ble_eq_true rfl) ⟨Nat.le_of_ble_eq_true rfl, Nat.le_of_ble_eq_true rfl⟩ ⟨Nat.le_of_ble_eq_true rfl, Nat.le_of_ble_eq_true rfl⟩ rfl rfl d_M_firstOf_66 ?_
  refine b_if_eq X (tgt := 88) d_M_firstOf_69 (by decide) (fun h => absurd h c69) (fun _ => ?_)
  refine b_aload_n X d_M_firstOf_72 0 rfl rfl ?_
  refine b_get X fl_M_19 0 rfl (v := .ref (xa σ 4)) rfl d_M_firstOf_73 ?_
  refine b_iconst X (v := (-1)) d_M_firstOf_76 (by decide) ?_
  refine b_iload X d_M_firstOf_77 7 rfl ?_
  refine b_isub X d_M_firstOf_79 ?_
  refine b_zald X 4 rfl (by decide) n80 e80 h80 d_M_firstOf_80 ?_
  refine b_if_eq X (tgt := 88) d_M_firstOf_81 (by decide) (fun _ => ?_) (fun h => absurd c81 h)
  refine b_iconst X (v := 0) d_M_firstOf_88 (by decide) ?_
  refine b_istore X (lv' := [(0, .ref (xa σ 0)), (1, .int x1), (2, .int x2), (3, .int x3), (4, .long (x4 ||| (shlL 1 (xi σ 3 n30)))), (6, .int 0), (7, .int x7), (8, .int (xi σ 3 n30))]) d_M_firstOf_89 (by decide) [1, 2, 3, 4, 5, 0, 6, 7] rfl ?_
  refine b_iinc X (lv' := [(0, .ref (xa σ 0)), (1, .int x1), (2, .int x2), (3, .int x3), (4, .long (x4 ||| (shlL 1 (xi σ 3 n30)))), (6, .int 0), (7, .int (x7 + 1)), (8, .int (xi σ 3 n30))]) d_M_firstOf_91 6 rfl (v := (x7 + 1)) rfl (by decide) [1, 2, 3, 4, 5, 6, 0, 7] rfl ?_
  refine b_goto X (tgt := 9) d_M_firstOf_94 (by decide) ?_
  refine Lb.pick (lv' := [(0, .ref (xa σ 0)), (1, .int x1), (2, .int x2), (3, .int x3), (4, .long (x4 ||| (shlL 1 (xi σ 3 n30)))), (6, .int 0), (7, .int (x7 + 1))]) [0, 1, 2, 3, 4, 5, 6] rfl ?_
  exact k
theorem sg_M_firstOf_9_fftff9 {K : KX} {G : GG} {w0 : va_W} {Q : State → Prop} (X : Bd K G w0 "FirstTreesModel" c_M_firstOf 9 (some .long) rm_M_firstOf) (σ : St) (x1 : Int32) (x2 : Int32) (x3 : Int32) (x4 : Int64) (x6 : Int32) (x7 : Int32) (n14 : Nat) (n30 : Nat) (n80 : Nat) (e14 : ((8 * x1) + x2) = nI n14) (h14 : n14 < 128) (c17 : ¬ (xi σ 2 n14) ≤ x7) (c22 : ¬ x6 = 0) (e30 : (((64 * x1) + (8 * x2)) + x7) = nI n30) (h30 : n30 < 1024) (c42 : (b2i ((xi σ 3 n30) < 0)) = 0) (c69 : ¬ (b2i ((xi σ 3 n30) < 0)) = 0) (e80 : ((-1) - (xi σ 3 n30)) = nI n80) (h80 : n80 < 16) (c81 : ¬ (xi σ 4 n80) = 0) (k : Lb K G w0 Q 9 9 [(0, .ref (xa σ 0)), (1, .int x1), (2, .int x2), (3, .int x3), (4, .long (x4 ||| (shlL 1 (xi σ 3 n30)))), (6, .int 1), (7, .int (x7 + 1))] [] (WM G σ) 0 0) : Lb K G w0 Q 9 9 [(0, .ref (xa σ 0)), (1, .int x1), (2, .int x2), (3, .int x3), (4, .long x4), (6, .int x6), (7, .int x7)] [] (WM G σ) 0 0 := by
  refine b_iload X d_M_firstOf_9 6 rfl ?_
  refine b_aload_n X d_M_firstOf_11 0 rfl rfl ?_
  refine b_iload_n X d_M_firstOf_12 1 rfl rfl ?_
  refine b_iload_n X d_M_firstOf_13 2 rfl rfl ?_
  refine b_dV X cf_M_sizeOf ci_M_sizeOf ml_M_77 (ct_M_sizeOf_ G σ x1 x2 n14 e14 h14) 0 rfl rfl (As := [.int x1, .int x2]) (rest := [.int x7]) rfl (Nat.le_of_ble_eq_true rfl) ⟨Nat.le_of_ble_eq_true rfl, Nat.le_of_ble_eq_true rfl⟩ ⟨Nat.le_of_ble_eq_true rfl, Nat.le_of_ble_eq_true rfl⟩ rfl rfl d_M_firstOf_14 ?_
  refine b_icmp_ge X (tgt := 97) d_M_firstOf_17 (by decide) (fun h => absurd h c17) (fun _ => ?_)
  refine b_iload X d_M_firstOf_20 5 rfl ?_
  refine b_if_eq X (tgt := 97) d_M_firstOf_22 (by decide) (fun h => absurd h c22) (fun _ => ?_)
  refine b_aload_n X d_M_firstOf_25 0 rfl rfl ?_
  refine b_iload_n X d_M_firstOf_26 1 rfl rfl ?_
  refine b_iload_n X d_M_firstOf_27 2 rfl rfl ?_
  refine b_iload X d_M_firstOf_28 6 rfl ?_
  refine b_dV X cf_M_symbolAt ci_M_symbolAt ml_M_81 (ct_M_symbolAt_ G σ x1 x2 x7 n30 e30 h30) 0 rfl rfl (As := [.int x1, .int x2, .int x7]) (rest := []) rfl (Nat.le_of_ble_eq_true rfl) ⟨Nat.le_of_ble_eq_true rfl, Nat.le_of_ble_eq_true rfl⟩ ⟨Nat.le_of_ble_eq_true rfl, Nat.le_of_ble_eq_true rfl⟩ rfl rfl d_M_firstOf_30 ?_
  refine b_istore X (lv' := [(0, .ref (xa σ 0)), (1, .int x1), (2, .int x2), (3, .int x3), (4, .long x4), (6, .int x6), (7, .int x7), (8, .int (xi σ 3 n30))]) d_M_firstOf_33 (by decide) [1, 2, 3, 4, 5, 6, 7, 0] rfl ?_
  refine b_lload X d_M_firstOf_35 4 rfl ?_
  refine b_iload X d_M_firstOf_37 7 rfl ?_
  refine b_dS X cf_M_isRule ci_M_isRule ml_M_85 (ct_M_isRule G σ (xi σ 3 n30)) (As := [.int (xi σ 3 n30)]) (rest := [.long x4]) rfl (Nat.le_of_ble_eq_true rfl) ⟨Nat.le_of_ble_eq_true rfl, Nat.le_of_ble_eq_true rfl⟩ ⟨Nat.le_of_ble_eq_true rfl, Nat.le_of_ble_eq_true rfl⟩ rfl rfl d_M_firstOf_39 ?_
  refine b_if_eq X (tgt := 57) d_M_firstOf_42 (by decide) (fun _ => ?_) (fun h => absurd c42 h)
  refine b_lconst X (v := 1) d_M_firstOf_57 rfl ?_
  refine b_iload X d_M_firstOf_58 7 rfl ?_
  refine b_lshl X (v := (shlL 1 (xi σ 3 n30))) d_M_firstOf_60 rfl ?_
  refine b_lor X d_M_firstOf_61 ?_
  refine b_lstore X (lv' := [(0, .ref (xa σ 0)), (1, .int x1), (2, .int x2), (3, .int x3), (4, .long (x4 ||| (shlL 1 (xi σ 3 n30)))), (6, .int x6), (7, .int x7), (8, .int (xi σ 3 n30))]) d_M_firstOf_62 (by decide) [1, 2, 3, 4, 0, 5, 6, 7] rfl ?_
  refine b_iload X d_M_firstOf_64 7 rfl ?_
  refine b_dS X cf_M_isRule ci_M_isRule ml_M_85 (ct_M_isRule G σ (xi σ 3 n30)) (As := [.int (xi σ 3 n30)]) (rest := []) rfl (Nat.le_of_ble_eq_true rfl) ⟨Nat.le_of_ble_eq_true rfl, Nat.le_of_ble_eq_true rfl⟩ ⟨Nat.le_of_ble_eq_true rfl, Nat.le_of_ble_eq_true rfl⟩ rfl rfl d_M_firstOf_66 ?_
  refine b_if_eq X (tgt := 88) d_M_firstOf_69 (by decide) (fun h => absurd h c69) (fun _ => ?_)
  refine b_aload_n X d_M_firstOf_72 0 rfl rfl ?_
  refine b_get X fl_M_19 0 rfl (v := .ref (xa σ 4)) rfl d_M_firstOf_73 ?_
  refine b_iconst X (v := (-1)) d_M_firstOf_76 (by decide) ?_
  refine b_iload X d_M_firstOf_77 7 rfl ?_
  refine b_isub X d_M_firstOf_79 ?_
  refine b_zald X 4 rfl (by decide) n80 e80 h80 d_M_firstOf_80 ?_
  refine b_if_eq X (tgt := 88) d_M_firstOf_81 (by decide) (fun h => absurd h c81) (fun _ => ?_)
  refine b_iconst X (v := 1) d_M_firstOf_84 (by decide) ?_
  refine b_goto X (tgt := 89) d_M_firstOf_85 (by decide) ?_
  refine b_istore X (lv' := [(0, .ref (xa σ 0)), (1, .int x1), (2, .int x2), (3, .int x3), (4, .long (x4 ||| (shlL 1 (xi σ 3 n30)))), (6, .int 1), (7, .int x7), (8, .int (xi σ 3 n30))]) d_M_firstOf_89 (by decide) [1, 2, 3, 4, 5, 0, 6, 7] rfl ?_
  refine b_iinc X (lv' := [(0, .ref (xa σ 0)), (1, .int x1), (2, .int x2), (3, .int x3), (4, .long (x4 ||| (shlL 1 (xi σ 3 n30)))), (6, .int 1), (7, .int (x7 + 1)), (8, .int (xi σ 3 n30))]) d_M_firstOf_91 6 rfl (v := (x7 + 1)) rfl (by decide) [1, 2, 3, 4, 5, 6, 0, 7] rfl ?_
  refine b_goto X (tgt := 9) d_M_firstOf_94 (by decide) ?_
  refine Lb.pick (lv' := [(0, .ref (xa σ 0)), (1, .int x1), (2, .int x2), (3, .int x3), (4, .long (x4 ||| (shlL 1 (xi σ 3 n30)))), (6, .int 1), (7, .int (x7 + 1))]) [0, 1, 2, 3, 4, 5, 6] rfl ?_
  exact k
theorem sg_M_firstOf_9_ffft9 {K : KX} {G : GG} {w0 : va_W} {Q : State → Prop} (X : Bd K G w0 "FirstTreesModel" c_M_firstOf 9 (some .long) rm_M_firstOf) (σ : St) (x1 : Int32) (x2 : Int32) (x3 : Int32) (x4 : Int64) (x6 : Int32) (x7 : Int32) (n14 : Nat) (n30 : Nat) (n53 : Nat) (e14 : ((8 * x1) + x2) = nI n14) (h14 : n14 < 128) (c17 : ¬ (xi σ 2 n14) ≤ x7) (c22 : ¬ x6 = 0) (e30 : (((64 * x1) + (8 * x2)) + x7) = nI n30) (h30 : n30 < 1024) (c42 : ¬ (b2i ((xi σ 3 n30) < 0)) = 0) (e53 : ((-1) - (xi σ 3 n30)) = nI n53) (h53 : n53 < 16) (c69 : (b2i ((xi σ 3 n30) < 0)) = 0) (k : Lb K G w0 Q 9 9 [(0, .ref (xa σ 0)), (1, .int x1), (2, .int x2), (3, .int x3), (4, .long (x4 ||| (xl σ 14 n53))), (6, .int 0), (7, .int (x7 + 1))] [] (WM G σ) 0 0) : Lb K G w0 Q 9 9 [(0, .ref (xa σ 0)), (1, .int x1), (2, .int x2), (3, .int x3), (4, .long x4), (6, .int x6), (7, .int x7)] [] (WM G σ) 0 0 := by
  refine b_iload X d_M_firstOf_9 6 rfl ?_
  refine b_aload_n X d_M_firstOf_11 0 rfl rfl ?_
  refine b_iload_n X d_M_firstOf_12 1 rfl rfl ?_
  refine b_iload_n X d_M_firstOf_13 2 rfl rfl ?_
  refine b_dV X cf_M_sizeOf ci_M_sizeOf ml_M_77 (ct_M_sizeOf_ G σ x1 x2 n14 e14 h14) 0 rfl rfl (As := [.int x1, .int x2]) (rest := [.int x7]) rfl (Nat.le_of_ble_eq_true rfl) ⟨Nat.le_of_ble_eq_true rfl, Nat.le_of_ble_eq_true rfl⟩ ⟨Nat.le_of_ble_eq_true rfl, Nat.le_of_ble_eq_true rfl⟩ rfl rfl d_M_firstOf_14 ?_
  refine b_icmp_ge X (tgt := 97) d_M_firstOf_17 (by decide) (fun h => absurd h c17) (fun _ => ?_)
  refine b_iload X d_M_firstOf_20 5 rfl ?_
  refine b_if_eq X (tgt := 97) d_M_firstOf_22 (by decide) (fun h => absurd h c22) (fun _ => ?_)
  refine b_aload_n X d_M_firstOf_25 0 rfl rfl ?_
  refine b_iload_n X d_M_firstOf_26 1 rfl rfl ?_
  refine b_iload_n X d_M_firstOf_27 2 rfl rfl ?_
  refine b_iload X d_M_firstOf_28 6 rfl ?_
  refine b_dV X cf_M_symbolAt ci_M_symbolAt ml_M_81 (ct_M_symbolAt_ G σ x1 x2 x7 n30 e30 h30) 0 rfl rfl (As := [.int x1, .int x2, .int x7]) (rest := []) rfl (Nat.le_of_ble_eq_true rfl) ⟨Nat.le_of_ble_eq_true rfl, Nat.le_of_ble_eq_true rfl⟩ ⟨Nat.le_of_ble_eq_true rfl, Nat.le_of_ble_eq_true rfl⟩ rfl rfl d_M_firstOf_30 ?_
  refine b_istore X (lv' := [(0, .ref (xa σ 0)), (1, .int x1), (2, .int x2), (3, .int x3), (4, .long x4), (6, .int x6), (7, .int x7), (8, .int (xi σ 3 n30))]) d_M_firstOf_33 (by decide) [1, 2, 3, 4, 5, 6, 7, 0] rfl ?_
  refine b_lload X d_M_firstOf_35 4 rfl ?_
  refine b_iload X d_M_firstOf_37 7 rfl ?_
  refine b_dS X cf_M_isRule ci_M_isRule ml_M_85 (ct_M_isRule G σ (xi σ 3 n30)) (As := [.int (xi σ 3 n30)]) (rest := [.long x4]) rfl (Nat.le_of_ble_eq_true rfl) ⟨Nat.le_of_ble_eq_true rfl, Nat.le_of_ble_eq_true rfl⟩ ⟨Nat.le_of_ble_eq_true rfl, Nat.le_of_ble_eq_true rfl⟩ rfl rfl d_M_firstOf_39 ?_
  refine b_if_eq X (tgt := 57) d_M_firstOf_42 (by decide) (fun h => absurd h c42) (fun _ => ?_)
  refine b_aload_n X d_M_firstOf_45 0 rfl rfl ?_
  refine b_get X fl_M_52 0 rfl (v := .ref (xa σ 14)) rfl d_M_firstOf_46 ?_
  refine b_iconst X (v := (-1)) d_M_firstOf_49 (by decide) ?_
  refine b_iload X d_M_firstOf_50 7 rfl ?_
  refine b_isub X d_M_firstOf_52 ?_
  refine b_lald X 14 rfl (by decide) n53 e53 h53 d_M_firstOf_53 ?_
  refine b_goto X (tgt := 61) d_M_firstOf_54 (by decide) ?_
  refine b_lor X d_M_firstOf_61 ?_
  refine b_lstore X (lv' := [(0, .ref (xa σ 0)), (1, .int x1), (2, .int x2), (3, .int x3), (4, .long (x4 ||| (xl σ 14 n53))), (6, .int x6), (7, .int x7), (8, .int (xi σ 3 n30))]) d_M_firstOf_62 (by decide) [1, 2, 3, 4, 0, 5, 6, 7] rfl ?_
  refine b_iload X d_M_firstOf_64 7 rfl ?_
  refine b_dS X cf_M_isRule ci_M_isRule ml_M_85 (ct_M_isRule G σ (xi σ 3 n30)) (As := [.int (xi σ 3 n30)]) (rest := []) rfl (Nat.le_of_ble_eq_true rfl) ⟨Nat.le_of_ble_eq_true rfl, Nat.le_of_ble_eq_true rfl⟩ ⟨Nat.le_of_ble_eq_true rfl, Nat.le_of_ble_eq_true rfl⟩ rfl rfl d_M_firstOf_66 ?_
  refine b_if_eq X (tgt := 88) d_M_firstOf_69 (by decide) (fun _ => ?_) (fun h => absurd c69 h)
  refine b_iconst X (v := 0) d_M_firstOf_88 (by decide) ?_
  refine b_istore X (lv' := [(0, .ref (xa σ 0)), (1, .int x1), (2, .int x2), (3, .int x3), (4, .long (x4 ||| (xl σ 14 n53))), (6, .int 0), (7, .int x7), (8, .int (xi σ 3 n30))]) d_M_firstOf_89 (by decide) [1, 2, 3, 4, 5, 0, 6, 7] rfl ?_
  refine b_iinc X (lv' := [(0, .ref (xa σ 0)), (1, .int x1), (2, .int x2), (3, .int x3), (4, .long (x4 ||| (xl σ 14 n53))), (6, .int 0), (7, .int (x7 + 1)), (8, .int (xi σ 3 n30))]) d_M_firstOf_91 6 rfl (v := (x7 + 1)) rfl (by decide) [1, 2, 3, 4, 5, 6, 0, 7] rfl ?_
  refine b_goto X (tgt := 9) d_M_firstOf_94 (by decide) ?_
  refine Lb.pick (lv' := [(0, .ref (xa σ 0)), (1, .int x1), (2, .int x2), (3, .int x3), (4, .long (x4 ||| (xl σ 14 n53))), (6, .int 0), (7, .int (x7 + 1))]) [0, 1, 2, 3, 4, 5, 6] rfl ?_
  exact k
theorem sg_M_firstOf_9_fffft9 {K : KX} {G : GG} {w0 : va_W} {Q : State → Prop} (X : Bd K G w0 "FirstTreesModel" c_M_firstOf 9 (some .long) rm_M_firstOf) (σ : St) (x1 : Int32) (x2 : Int32) (x3 : Int32) (x4 : Int64) (x6 : Int32) (x7 : Int32) (n14 : Nat) (n30 : Nat) (n53 : Nat) (e14 : ((8 * x1) + x2) = nI n14) (h14 : n14 < 128) (c17 : ¬ (xi σ 2 n14) ≤ x7) (c22 : ¬ x6 = 0) (e30 : (((64 * x1) + (8 * x2)) + x7) = nI n30) (h30 : n30 < 1024) (c42 : ¬ (b2i ((xi σ 3 n30) < 0)) = 0) (e53 : ((-1) - (xi σ 3 n30)) = nI n53) (h53 : n53 < 16) (c69 : ¬ (b2i ((xi σ 3 n30) < 0)) = 0) (c81 : (xi σ 4 n53) = 0) (k : Lb K G w0 Q 9 9 [(0, .ref (xa σ 0)), (1, .int x1), (2, .int x2), (3, .int x3), (4, .long (x4 ||| (xl σ 14 n53))), (6, .int 0), (7, .int (x7 + 1))] [] (WM G σ) 0 0) : Lb K G w0 Q 9 9 [(0, .ref (xa σ 0)), (1, .int x1), (2, .int x2), (3, .int x3), (4, .long x4), (6, .int x6), (7, .int x7)] [] (WM G σ) 0 0 := by
  refine b_iload X d_M_firstOf_9 6 rfl ?_
  refine b_aload_n X d_M_firstOf_11 0 rfl rfl ?_
  refine b_iload_n X d_M_firstOf_12 1 rfl rfl ?_
  refine b_iload_n X d_M_firstOf_13 2 rfl rfl ?_
  refine b_dV X cf_M_sizeOf ci_M_sizeOf ml_M_77 (ct_M_sizeOf_ G σ x1 x2 n14 e14 h14) 0 rfl rfl (As := [.int x1, .int x2]) (rest := [.int x7]) rfl (Nat.le_of_ble_eq_true rfl) ⟨Nat.le_of_ble_eq_true rfl, Nat.le_of_ble_eq_true rfl⟩ ⟨Nat.le_of_ble_eq_true rfl, Nat.le_of_ble_eq_true rfl⟩ rfl rfl d_M_firstOf_14 ?_
  refine b_icmp_ge X (tgt := 97) d_M_firstOf_17 (by decide) (fun h => absurd h c17) (fun _ => ?_)
  refine b_iload X d_M_firstOf_20 5 rfl ?_
  refine b_if_eq X (tgt := 97) d_M_firstOf_22 (by decide) (fun h => absurd h c22) (fun _ => ?_)
  refine b_aload_n X d_M_firstOf_25 0 rfl rfl ?_
  refine b_iload_n X d_M_firstOf_26 1 rfl rfl ?_
  refine b_iload_n X d_M_firstOf_27 2 rfl rfl ?_
  refine b_iload X d_M_firstOf_28 6 rfl ?_
  refine b_dV X cf_M_symbolAt ci_M_symbolAt ml_M_81 (ct_M_symbolAt_ G σ x1 x2 x7 n30 e30 h30) 0 rfl rfl (As := [.int x1, .int x2, .int x7]) (rest := []) rfl (Nat.le_of_ble_eq_true rfl) ⟨Nat.le_of_ble_eq_true rfl, Nat.le_of_ble_eq_true rfl⟩ ⟨Nat.le_of_ble_eq_true rfl, Nat.le_of_ble_eq_true rfl⟩ rfl rfl d_M_firstOf_30 ?_
  refine b_istore X (lv' := [(0, .ref (xa σ 0)), (1, .int x1), (2, .int x2), (3, .int x3), (4, .long x4), (6, .int x6), (7, .int x7), (8, .int (xi σ 3 n30))]) d_M_firstOf_33 (by decide) [1, 2, 3, 4, 5, 6, 7, 0] rfl ?_
  refine b_lload X d_M_firstOf_35 4 rfl ?_
  refine b_iload X d_M_firstOf_37 7 rfl ?_
  refine b_dS X cf_M_isRule ci_M_isRule ml_M_85 (ct_M_isRule G σ (xi σ 3 n30)) (As := [.int (xi σ 3 n30)]) (rest := [.long x4]) rfl (Nat.le_of_ble_eq_true rfl) ⟨Nat.le_of_ble_eq_true rfl, Nat.le_of_ble_eq_true rfl⟩ ⟨Nat.le_of_ble_eq_true rfl, Nat.le_of_ble_eq_true rfl⟩ rfl rfl d_M_firstOf_39 ?_
  refine b_if_eq X (tgt := 57) d_M_firstOf_42 (by decide) (fun h => absurd h c42) (fun _ => ?_)
  refine b_aload_n X d_M_firstOf_45 0 rfl rfl ?_
  refine b_get X fl_M_52 0 rfl (v := .ref (xa σ 14)) rfl d_M_firstOf_46 ?_
  refine b_iconst X (v := (-1)) d_M_firstOf_49 (by decide) ?_
  refine b_iload X d_M_firstOf_50 7 rfl ?_
  refine b_isub X d_M_firstOf_52 ?_
  refine b_lald X 14 rfl (by decide) n53 e53 h53 d_M_firstOf_53 ?_
  refine b_goto X (tgt := 61) d_M_firstOf_54 (by decide) ?_
  refine b_lor X d_M_firstOf_61 ?_
  refine b_lstore X (lv' := [(0, .ref (xa σ 0)), (1, .int x1), (2, .int x2), (3, .int x3), (4, .long (x4 ||| (xl σ 14 n53))), (6, .int x6), (7, .int x7), (8, .int (xi σ 3 n30))]) d_M_firstOf_62 (by decide) [1, 2, 3, 4, 0, 5, 6, 7] rfl ?_
  refine b_iload X d_M_firstOf_64 7 rfl ?_
  refine b_dS X cf_M_isRule ci_M_isRule ml_M_85 (ct_M_isRule G σ (xi σ 3 n30)) (As := [.int (xi σ 3 n30)]) (rest := []) rfl (Nat.le_of_ble_eq_true rfl) ⟨Nat.le_of_ble_eq_true rfl, Nat.le_of_ble_eq_true rfl⟩ ⟨Nat.le_of_ble_eq_true rfl, Nat.le_of_ble_eq_true rfl⟩ rfl rfl d_M_firstOf_66 ?_
  refine b_if_eq X (tgt := 88) d_M_firstOf_69 (by decide) (fun h => absurd h c69) (fun _ => ?_)
  refine b_aload_n X d_M_firstOf_72 0 rfl rfl ?_
  refine b_get X fl_M_19 0 rfl (v := .ref (xa σ 4)) rfl d_M_firstOf_73 ?_
  refine b_iconst X (v := (-1)) d_M_firstOf_76 (by decide) ?_
  refine b_iload X d_M_firstOf_77 7 rfl ?_
  refine b_isub X d_M_firstOf_79 ?_
  refine b_zald X 4 rfl (by decide) n53 e53 h53 d_M_firstOf_80 ?_
  refine b_if_eq X (tgt := 88) d_M_firstOf_81 (by decide) (fun _ => ?_) (fun h => absurd c81 h)
  refine b_iconst X (v := 0) d_M_firstOf_88 (by decide) ?_
  refine b_istore X (lv' := [(0, .ref (xa σ 0)), (1, .int x1), (2, .int x2), (3, .int x3), (4, .long (x4 ||| (xl σ 14 n53))), (6, .int 0), (7, .int x7), (8, .int (xi σ 3 n30))]) d_M_firstOf_89 (by decide) [1, 2, 3, 4, 5, 0, 6, 7] rfl ?_
  refine b_iinc X (lv' := [(0, .ref (xa σ 0)), (1, .int x1), (2, .int x2), (3, .int x3), (4, .long (x4 ||| (xl σ 14 n53))), (6, .int 0), (7, .int (x7 + 1)), (8, .int (xi σ 3 n30))]) d_M_firstOf_91 6 rfl (v := (x7 + 1)) rfl (by decide) [1, 2, 3, 4, 5, 6, 0, 7] rfl ?_
  refine b_goto X (tgt := 9) d_M_firstOf_94 (by decide) ?_
  refine Lb.pick (lv' := [(0, .ref (xa σ 0)), (1, .int x1), (2, .int x2), (3, .int x3), (4, .long (x4 ||| (xl σ 14 n53))), (6, .int 0), (7, .int (x7 + 1))]) [0, 1, 2, 3, 4, 5, 6] rfl ?_
  exact k
theorem sg_M_firstOf_9_fffff9 {K : KX} {G : GG} {w0 : va_W} {Q : State → Prop} (X : Bd K G w0 "FirstTreesModel" c_M_firstOf 9 (some .long) rm_M_firstOf) (σ : St) (x1 : Int32) (x2 : Int32) (x3 : Int32) (x4 : Int64) (x6 : Int32) (x7 : Int32) (n14 : Nat) (n30 : Nat) (n53 : Nat) (e14 : ((8 * x1) + x2) = nI n14) (h14 : n14 < 128) (c17 : ¬ (xi σ 2 n14) ≤ x7) (c22 : ¬ x6 = 0) (e30 : (((64 * x1) + (8 * x2)) + x7) = nI n30) (h30 : n30 < 1024) (c42 : ¬ (b2i ((xi σ 3 n30) < 0)) = 0) (e53 : ((-1) - (xi σ 3 n30)) = nI n53) (h53 : n53 < 16) (c69 : ¬ (b2i ((xi σ 3 n30) < 0)) = 0) (c81 : ¬ (xi σ 4 n53) = 0) (k : Lb K G w0 Q 9 9 [(0, .ref (xa σ 0)), (1, .int x1), (2, .int x2), (3, .int x3), (4, .long (x4 ||| (xl σ 14 n53))), (6, .int 1), (7, .int (x7 + 1))] [] (WM G σ) 0 0) : Lb K G w0 Q 9 9 [(0, .ref (xa σ 0)), (1, .int x1), (2, .int x2), (3, .int x3), (4, .long x4), (6, .int x6), (7, .int x7)] [] (WM G σ) 0 0 := by
  refine b_iload X d_M_firstOf_9 6 rfl ?_
  refine b_aload_n X d_M_firstOf_11 0 rfl rfl ?_
  refine b_iload_n X d_M_firstOf_12 1 rfl rfl ?_
  refine b_iload_n X d_M_firstOf_13 2 rfl rfl ?_
  refine b_dV X cf_M_sizeOf ci_M_sizeOf ml_M_77 (ct_M_sizeOf_ G σ x1 x2 n14 e14 h14) 0 rfl rfl (As := [.int x1, .int x2]) (rest := [.int x7]) rfl (Nat.le_of_ble_eq_true rfl) ⟨Nat.le_of_ble_eq_true rfl, Nat.le_of_ble_eq_true rfl⟩ ⟨Nat.le_of_ble_eq_true rfl, Nat.le_of_ble_eq_true rfl⟩ rfl rfl d_M_firstOf_14 ?_
  refine b_icmp_ge X (tgt := 97) d_M_firstOf_17 (by decide) (fun h => absurd h c17) (fun _ => ?_)
  refine b_iload X d_M_firstOf_20 5 rfl ?_
  refine b_if_eq X (tgt := 97) d_M_firstOf_22 (by decide) (fun h => absurd h c22) (fun _ => ?_)
  refine b_aload_n X d_M_firstOf_25 0 rfl rfl ?_
  refine b_iload_n X d_M_firstOf_26 1 rfl rfl ?_
  refine b_iload_n X d_M_firstOf_27 2 rfl rfl ?_
  refine b_iload X d_M_firstOf_28 6 rfl ?_
  refine b_dV X cf_M_symbolAt ci_M_symbolAt ml_M_81 (ct_M_symbolAt_ G σ x1 x2 x7 n30 e30 h30) 0 rfl rfl (As := [.int x1, .int x2, .int x7]) (rest := []) rfl (Nat.le_of_ble_eq_true rfl) ⟨Nat.le_of_ble_eq_true rfl, Nat.le_of_ble_eq_true rfl⟩ ⟨Nat.le_of_ble_eq_true rfl, Nat.le_of_ble_eq_true rfl⟩ rfl rfl d_M_firstOf_30 ?_
  refine b_istore X (lv' := [(0, .ref (xa σ 0)), (1, .int x1), (2, .int x2), (3, .int x3), (4, .long x4), (6, .int x6), (7, .int x7), (8, .int (xi σ 3 n30))]) d_M_firstOf_33 (by decide) [1, 2, 3, 4, 5, 6, 7, 0] rfl ?_
  refine b_lload X d_M_firstOf_35 4 rfl ?_
  refine b_iload X d_M_firstOf_37 7 rfl ?_
  refine b_dS X cf_M_isRule ci_M_isRule ml_M_85 (ct_M_isRule G σ (xi σ 3 n30)) (As := [.int (xi σ 3 n30)]) (rest := [.long x4]) rfl (Nat.le_of_ble_eq_true rfl) ⟨Nat.le_of_ble_eq_true rfl, Nat.le_of_ble_eq_true rfl⟩ ⟨Nat.le_of_ble_eq_true rfl, Nat.le_of_ble_eq_true rfl⟩ rfl rfl d_M_firstOf_39 ?_
  refine b_if_eq X (tgt := 57) d_M_firstOf_42 (by decide) (fun h => absurd h c42) (fun _ => ?_)
  refine b_aload_n X d_M_firstOf_45 0 rfl rfl ?_
  refine b_get X fl_M_52 0 rfl (v := .ref (xa σ 14)) rfl d_M_firstOf_46 ?_
  refine b_iconst X (v := (-1)) d_M_firstOf_49 (by decide) ?_
  refine b_iload X d_M_firstOf_50 7 rfl ?_
  refine b_isub X d_M_firstOf_52 ?_
  refine b_lald X 14 rfl (by decide) n53 e53 h53 d_M_firstOf_53 ?_
  refine b_goto X (tgt := 61) d_M_firstOf_54 (by decide) ?_
  refine b_lor X d_M_firstOf_61 ?_
  refine b_lstore X (lv' := [(0, .ref (xa σ 0)), (1, .int x1), (2, .int x2), (3, .int x3), (4, .long (x4 ||| (xl σ 14 n53))), (6, .int x6), (7, .int x7), (8, .int (xi σ 3 n30))]) d_M_firstOf_62 (by decide) [1, 2, 3, 4, 0, 5, 6, 7] rfl ?_
  refine b_iload X d_M_firstOf_64 7 rfl ?_
  refine b_dS X cf_M_isRule ci_M_isRule ml_M_85 (ct_M_isRule G σ (xi σ 3 n30)) (As := [.int (xi σ 3 n30)]) (rest := []) rfl (Nat.le_of_ble_eq_true rfl) ⟨Nat.le_of_ble_eq_true rfl, Nat.le_of_ble_eq_true rfl⟩ ⟨Nat.le_of_ble_eq_true rfl, Nat.le_of_ble_eq_true rfl⟩ rfl rfl d_M_firstOf_66 ?_
  refine b_if_eq X (tgt := 88) d_M_firstOf_69 (by decide) (fun h => absurd h c69) (fun _ => ?_)
  refine b_aload_n X d_M_firstOf_72 0 rfl rfl ?_
  refine b_get X fl_M_19 0 rfl (v := .ref (xa σ 4)) rfl d_M_firstOf_73 ?_
  refine b_iconst X (v := (-1)) d_M_firstOf_76 (by decide) ?_
  refine b_iload X d_M_firstOf_77 7 rfl ?_
  refine b_isub X d_M_firstOf_79 ?_
  refine b_zald X 4 rfl (by decide) n53 e53 h53 d_M_firstOf_80 ?_
  refine b_if_eq X (tgt := 88) d_M_firstOf_81 (by decide) (fun h => absurd h c81) (fun _ => ?_)
  refine b_iconst X (v := 1) d_M_firstOf_84 (by decide) ?_
  refine b_goto X (tgt := 89) d_M_firstOf_85 (by decide) ?_
  refine b_istore X (lv' := [(0, .ref (xa σ 0)), (1, .int x1), (2, .int x2), (3, .int x3), (4, .long (x4 ||| (xl σ 14 n53))), (6, .int 1), (7, .int x7), (8, .int (xi σ 3 n30))]) d_M_firstOf_89 (by decide) [1, 2, 3, 4, 5, 0, 6, 7] rfl ?_
  refine b_iinc X (lv' := [(0, .ref (xa σ 0)), (1, .int x1), (2, .int x2), (3, .int x3), (4, .long (x4 ||| (xl σ 14 n53))), (6, .int 1), (7, .int (x7 + 1)), (8, .int (xi σ 3 n30))]) d_M_firstOf_91 6 rfl (v := (x7 + 1)) rfl (by decide) [1, 2, 3, 4, 5, 6, 0, 7] rfl ?_
  refine b_goto X (tgt := 9) d_M_firstOf_94 (by decide) ?_
  refine Lb.pick (lv' := [(0, .ref (xa σ 0)), (1, .int x1), (2, .int x2), (3, .int x3), (4, .long (x4 ||| (xl σ 14 n53))), (6, .int 1), (7, .int (x7 + 1))]) [0, 1, 2, 3, 4, 5, 6] rfl ?_
  exact k
theorem sg_M_findSets_0_2 {K : KX} {G : GG} {w0 : va_W} {Q : State → Prop} (X : Bd K G w0 "FirstTreesModel" c_M_findSets 4 none rm_M_findSets) (σ : St)    (k : Lb K G w0 Q 4 2 [(0, .ref (xa σ 0)), (1, .int 0)] [] (WM G σ) 0 0) : Lb K G w0 Q 4 0 [(0, .ref (xa σ 0))] [] (WM G σ) 0 0 := by
  refine b_iconst X (v := 0) d_M_findSets_0 (by decide) ?_
  refine b_istore_n X (lv' := [(0, .ref (xa σ 0)), (1, .int 0)]) d_M_findSets_1 rfl (by decide) [1, 0] rfl ?_
  exact k
theorem sg_M_findSets_2_t40 {K : KX} {G : GG} {w0 : va_W} {Q : State → Prop} (X : Bd K G w0 "FirstTreesModel" c_M_findSets 4 none rm_M_findSets) (σ : St) (x1 : Int32)  (c5 : 16 ≤ x1) (k : Lb K G w0 Q 4 40 [(0, .ref (xa σ 0)), (1, .int 0)] [] (WM G σ) 0 0) : Lb K G w0 Q 4 2 [(0, .ref (xa σ 0)), (1, .int x1)] [] (WM G σ) 0 0 := by
  refine b_iload_n X d_M_findSets_2 1 rfl rfl ?_
  refine b_bipush X (v := 16) d_M_findSets_3 (by decide) ?_
  refine b_icmp_ge X (tgt := 38) d_M_findSets_5 (by decide) (fun _ => ?_) (fun h => absurd c5 h)
  refine b_iconst X (v := 0) d_M_findSets_38 (by decide) ?_
  refine b_istore_n X (lv' := [(0, .ref (xa σ 0)), (1, .int 0)]) d_M_findSets_39 rfl (by decide) [1, 0] rfl ?_
  exact k
theorem sg_M_findSets_2_ft2 {K : KX} {G : GG} {w0 : va_W} {Q : State → Prop} (X : Bd K G w0 "FirstTreesModel" c_M_findSets 4 none rm_M_findSets) (σ : St) (x1 : Int32) (n14 : Nat) (c5 : ¬ 16 ≤ x1) (e14 : x1 = nI n14) (h14 : n14 < 16) (c21 : ¬ x1 = 0) (k : Lb K G w0 Q 4 2 [(0, .ref (xa σ 0)), (1, .int (x1 + 1))] [] (WM G (wl (wl σ 14 n14 0) 15 n14 0)) 0 0) : Lb K G w0 Q 4 2 [(0, .ref (xa σ 0)), (1, .int x1)] [] (WM G σ) 0 0 := by
  refine b_iload_n X d_M_findSets_2 1 rfl rfl ?_
  refine b_bipush X (v := 16) d_M_findSets_3 (by decide) ?_
  refine b_icmp_ge X (tgt := 38) d_M_findSets_5 (by decide) (fun h => absurd h c5) (fun _ => ?_)
  refine b_aload_n X d_M_findSets_8 0 rfl rfl ?_
  refine b_get X fl_M_52 0 rfl (v := .ref (xa σ 14)) rfl d_M_findSets_9 ?_
  refine b_iload_n X d_M_findSets_12 1 rfl rfl ?_
  refine b_lconst X (v := 0) d_M_findSets_13 rfl ?_
  refine b_last X 14 rfl (by decide) n14 e14 h14 (uWM_14 G σ n14 0) d_M_findSets_14 ?_
  refine b_aload_n X d_M_findSets_15 0 rfl rfl ?_
  refine b_get X fl_M_55 0 rfl (v := .ref (xa σ 15)) rfl d_M_findSets_16 ?_
  refine b_iload_n X d_M_findSets_19 1 rfl rfl ?_
  refine b_iload_n X d_M_findSets_20 1 rfl rfl ?_
  refine b_if_ne X (tgt := 30) d_M_findSets_21 (by decide) (fun _ => ?_) (fun h => absurd h c21)
  refine b_lconst X (v := 0) d_M_findSets_30 rfl ?_
  refine b_last X 15 rfl (by decide) n14 e14 h14 (uWM_15 G (wl σ 14 n14 0) n14 0) d_M_findSets_31 ?_
  refine b_iinc X (lv' := [(0, .ref (xa σ 0)), (1, .int (x1 + 1))]) d_M_findSets_32 1 rfl (v := (x1 + 1)) rfl (by decide) [1, 0] rfl ?_
  refine b_goto X (tgt := 2) d_M_findSets_35 (by decide) ?_
  exact k
theorem sg_M_findSets_2_ff2 {K : KX} {G : GG} {w0 : va_W} {Q : State → Prop} (X : Bd K G w0 "FirstTreesModel" c_M_findSets 4 none rm_M_findSets) (σ : St) (x1 : Int32) (n14 : Nat) (c5 : ¬ 16 ≤ x1) (e14 : x1 = nI n14) (h14 : n14 < 16) (c21 : x1 = 0) (k : Lb K G w0 Q 4 2 [(0, .ref (xa σ 0)), (1, .int (x1 + 1))] [] (WM G (wl (wl σ 14 n14 0) 15 n14 4294967296)) 0 0) : Lb K G w0 Q 4 2 [(0, .ref (xa σ 0)), (1, .int x1)] [] (WM G σ) 0 0 := by
  refine b_iload_n X d_M_findSets_2 1 rfl rfl ?_
  refine b_bipush X (v := 16) d_M_findSets_3 (by decide) ?_
  refine b_icmp_ge X (tgt := 38) d_M_findSets_5 (by decide) (fun h => absurd h c5) (fun _ => ?_)
  refine b_aload_n X d_M_findSets_8 0 rfl rfl ?_
  refine b_get X fl_M_52 0 rfl (v := .ref (xa σ 14)) rfl d_M_findSets_9 ?_
  refine b_iload_n X d_M_findSets_12 1 rfl rfl ?_
  refine b_lconst X (v := 0) d_M_findSets_13 rfl ?_
  refine b_last X 14 rfl (by decide) n14 e14 h14 (uWM_14 G σ n14 0) d_M_findSets_14 ?_
  refine b_aload_n X d_M_findSets_15 0 rfl rfl ?_
  refine b_get X fl_M_55 0 rfl (v := .ref (xa σ 15)) rfl d_M_findSets_16 ?_
  refine b_iload_n X d_M_findSets_19 1 rfl rfl ?_
  refine b_iload_n X d_M_findSets_20 1 rfl rfl ?_
  refine b_if_ne X (tgt := 30) d_M_findSets_21 (by decide) (fun h => absurd c21 h) (fun _ => ?_)
  refine b_ldc2 X (v := 4294967296) kl_M_179 d_M_findSets_24 ?_
  refine b_goto X (tgt := 31) d_M_findSets_27 (by decide) ?_
  refine b_last X 15 rfl (by decide) n14 e14 h14 (uWM_15 G (wl σ 14 n14 0) n14 4294967296) d_M_findSets_31 ?_
  refine b_iinc X (lv' := [(0, .ref (xa σ 0)), (1, .int (x1 + 1))]) d_M_findSets_32 1 rfl (v := (x1 + 1)) rfl (by decide) [1, 0] rfl ?_
  refine b_goto X (tgt := 2) d_M_findSets_35 (by decide) ?_
  exact k
theorem sg_M_findSets_40_t110 {K : KX} {G : GG} {w0 : va_W} {Q : State → Prop} (X : Bd K G w0 "FirstTreesModel" c_M_findSets 4 none rm_M_findSets) (σ : St) (x1 : Int32)  (c45 : (xi σ 0 1) ≤ x1) (k : Lb K G w0 Q 4 110 [(0, .ref (xa σ 0)), (1, .int 0)] [] (WM G σ) 0 0) : Lb K G w0 Q 4 40 [(0, .ref (xa σ 0)), (1, .int x1)] [] (WM G σ) 0 0 := by
  refine b_iload_n X d_M_findSets_40 1 rfl rfl ?_
  refine b_aload_n X d_M_findSets_41 0 rfl rfl ?_
  refine b_get X fl_M_89 0 rfl (v := .int (xi σ 0 1)) rfl d_M_findSets_42 ?_
  refine b_icmp_ge X (tgt := 108) d_M_findSets_45 (by decide) (fun _ => ?_) (fun h => absurd c45 h)
  refine b_iconst X (v := 0) d_M_findSets_108 (by decide) ?_
  refine b_istore_n X (lv' := [(0, .ref (xa σ 0)), (1, .int 0)]) d_M_findSets_109 rfl (by decide) [1, 0] rfl ?_
  exact k
theorem sg_M_findSets_40_f50 {K : KX} {G : GG} {w0 : va_W} {Q : State → Prop} (X : Bd K G w0 "FirstTreesModel" c_M_findSets 4 none rm_M_findSets) (σ : St) (x1 : Int32)  (c45 : ¬ (xi σ 0 1) ≤ x1) (k : Lb K G w0 Q 4 50 [(0, .ref (xa σ 0)), (1, .int x1), (2, .int 0)] [] (WM G σ) 0 0) : Lb K G w0 Q 4 40 [(0, .ref (xa σ 0)), (1, .int x1)] [] (WM G σ) 0 0 := by
  refine b_iload_n X d_M_findSets_40 1 rfl rfl ?_
  refine b_aload_n X d_M_findSets_41 0 rfl rfl ?_
  refine b_get X fl_M_89 0 rfl (v := .int (xi σ 0 1)) rfl d_M_findSets_42 ?_
  refine b_icmp_ge X (tgt := 108) d_M_findSets_45 (by decide) (fun h => absurd h c45) (fun _ => ?_)
  refine b_iconst X (v := 0) d_M_findSets_48 (by decide) ?_
  refine b_istore_n X (lv' := [(0, .ref (xa σ 0)), (1, .int x1), (2, .int 0)]) d_M_findSets_49 rfl (by decide) [1, 2, 0] rfl ?_
  exact k
theorem sg_M_findSets_50_t40 {K : KX} {G : GG} {w0 : va_W} {Q : State → Prop} (X : Bd K G w0 "FirstTreesModel" c_M_findSets 4 none rm_M_findSets) (σ : St) (x1 : Int32) (x2 : Int32)  (c55 : (xi σ 0 1) ≤ x2) (k : Lb K G w0 Q 4 40 [(0, .ref (xa σ 0)), (1, .int (x1 + 1))] [] (WM G σ) 0 0) : Lb K G w0 Q 4 50 [(0, .ref (xa σ 0)), (1, .int x1), (2, .int x2)] [] (WM G σ) 0 0 := by
  refine b_iload_n X d_M_findSets_50 2 rfl rfl ?_
  refine b_aload_n X d_M_findSets_51 0 rfl rfl ?_
  refine b_get X fl_M_89 0 rfl (v := .int (xi σ 0 1)) rfl d_M_findSets_52 ?_
  refine b_icmp_ge X (tgt := 102) d_M_findSets_55 (by decide) (fun _ => ?_) (fun h => absurd c55 h)
  refine b_iinc X (lv' := [(0, .ref (xa σ 0)), (1, .int (x1 + 1)), (2, .int x2)]) d_M_findSets_102 1 rfl (v := (x1 + 1)) rfl (by decide) [1, 0, 2] rfl ?_
  refine b_goto X (tgt := 40) d_M_findSets_105 (by decide) ?_
  refine Lb.pick (lv' := [(0, .ref (xa σ 0)), (1, .int (x1 + 1))]) [0, 1] rfl ?_
  exact k
theorem sg_M_findSets_50_f60 {K : KX} {G : GG} {w0 : va_W} {Q : State → Prop} (X : Bd K G w0 "FirstTreesModel" c_M_findSets 4 none rm_M_findSets) (σ : St) (x1 : Int32) (x2 : Int32)  (c55 : ¬ (xi σ 0 1) ≤ x2) (k : Lb K G w0 Q 4 60 [(0, .ref (xa σ 0)), (1, .int x1), (2, .int x2), (3, .int 0)] [] (WM G σ) 0 0) : Lb K G w0 Q 4 50 [(0, .ref (xa σ 0)), (1, .int x1), (2, .int x2)] [] (WM G σ) 0 0 := by
  refine b_iload_n X d_M_findSets_50 2 rfl rfl ?_
  refine b_aload_n X d_M_findSets_51 0 rfl rfl ?_
  refine b_get X fl_M_89 0 rfl (v := .int (xi σ 0 1)) rfl d_M_findSets_52 ?_
  refine b_icmp_ge X (tgt := 102) d_M_findSets_55 (by decide) (fun h => absurd h c55) (fun _ => ?_)
  refine b_iconst X (v := 0) d_M_findSets_58 (by decide) ?_
  refine b_istore_n X (lv' := [(0, .ref (xa σ 0)), (1, .int x1), (2, .int x2), (3, .int 0)]) d_M_findSets_59 rfl (by decide) [1, 2, 3, 0] rfl ?_
  exact k
theorem sg_M_findSets_60_t50 {K : KX} {G : GG} {w0 : va_W} {Q : State → Prop} (X : Bd K G w0 "FirstTreesModel" c_M_findSets 4 none rm_M_findSets) (σ : St) (x1 : Int32) (x2 : Int32) (x3 : Int32) (n66 : Nat) (e66 : x2 = nI n66) (h66 : n66 < 16) (c67 : (xi σ 1 n66) ≤ x3) (k : Lb K G w0 Q 4 50 [(0, .ref (xa σ 0)), (1, .int x1), (2, .int (x2 + 1))] [] (WM G σ) 0 0) : Lb K G w0 Q 4 60 [(0, .ref (xa σ 0)), (1, .int x1), (2, .int x2), (3, .int x3)] [] (WM G σ) 0 0 := by
  refine b_iload_n X d_M_findSets_60 3 rfl rfl ?_
  refine b_aload_n X d_M_findSets_61 0 rfl rfl ?_
  refine b_get X fl_M_7 0 rfl (v := .ref (xa σ 1)) rfl d_M_findSets_62 ?_
  refine b_iload_n X d_M_findSets_65 2 rfl rfl ?_
  refine b_iald X 1 rfl (by decide) n66 e66 h66 d_M_findSets_66 ?_
  refine b_icmp_ge X (tgt := 96) d_M_findSets_67 (by decide) (fun _ => ?_) (fun h => absurd c67 h)
  refine b_iinc X (lv' := [(0, .ref (xa σ 0)), (1, .int x1), (2, .int (x2 + 1)), (3, .int x3)]) d_M_findSets_96 2 rfl (v := (x2 + 1)) rfl (by decide) [1, 2, 0, 3] rfl ?_
  refine b_goto X (tgt := 50) d_M_findSets_99 (by decide) ?_
  refine Lb.pick (lv' := [(0, .ref (xa σ 0)), (1, .int x1), (2, .int (x2 + 1))]) [0, 1, 2] rfl ?_
  exact k
theorem sg_M_findSets_60_f60 {K : KX} {G : GG} {w0 : va_W} {Q : State → Prop} (X : Bd K G w0 "FirstTreesModel" c_M_findSets 4 none rm_M_findSets) (σ : St) (x1 : Int32) (x2 : Int32) (x3 : Int32) (n66 : Nat) (r85 : Int64) (e66 : x2 = nI n66) (h66 : n66 < 16) (c67 : ¬ (xi σ 1 n66) ≤ x3) (t85 : Ct y_M_firstOf c_M_firstOf 9 (some .long) rm_M_firstOf G [.ref (xa σ 0), .int x2, .int x3, .int 0] (WM G σ) (eqp (some (.long r85)) (WM G σ))) (k : Lb K G w0 Q 4 60 [(0, .ref (xa σ 0)), (1, .int x1), (2, .int x2), (3, .int (x3 + 1))] [] (WM G (wl σ 14 n66 ((xl σ 14 n66) ||| r85))) 0 0) : Lb K G w0 Q 4 60 [(0, .ref (xa σ 0)), (1, .int x1), (2, .int x2), (3, .int x3)] [] (WM G σ) 0 0 := by
  refine b_iload_n X d_M_findSets_60 3 rfl rfl ?_
  refine b_aload_n X d_M_findSets_61 0 rfl rfl ?_
  refine b_get X fl_M_7 0 rfl (v := .ref (xa σ 1)) rfl d_M_findSets_62 ?_
  refine b_iload_n X d_M_findSets_65 2 rfl rfl ?_
  refine b_iald X 1 rfl (by decide) n66 e66 h66 d_M_findSets_66 ?_
  refine b_icmp_ge X (tgt := 96) d_M_findSets_67 (by decide) (fun h => absurd h c67) (fun _ => ?_)
  refine b_aload_n X d_M_findSets_70 0 rfl rfl ?_
  refine b_get X fl_M_52 0 rfl (v := .ref (xa σ 14)) rfl d_M_findSets_71 ?_
  refine b_iload_n X d_M_findSets_74 2 rfl rfl ?_
  refine b_aload_n X d_M_findSets_75 0 rfl rfl ?_
  refine b_get X fl_M_52 0 rfl (v := .ref (xa σ 14)) rfl d_M_findSets_76 ?_
  refine b_iload_n X d_M_findSets_79 2 rfl rfl ?_
  refine b_lald X 14 rfl (by decide) n66 e66 h66 d_M_findSets_80 ?_
  refine b_aload_n X d_M_findSets_81 0 rfl rfl ?_
  refine b_iload_n X d_M_findSets_82 2 rfl rfl ?_
  refine b_iload_n X d_M_findSets_83 3 rfl rfl ?_
  refine b_iconst X (v := 0) d_M_findSets_84 (by decide) ?_
  refine b_dV X cf_M_firstOf ci_M_firstOf ml_M_181 t85 0 rfl rfl (As := [.int x2, .int x3, .int 0]) (rest := [.long (xl σ 14 n66), .int x2, .ref (xa σ 14)]) rfl (Nat.le_of_ble_eq_true rfl) ⟨Nat.le_of_ble_eq_true rfl, Nat.le_of_ble_eq_true rfl⟩ ⟨Nat.le_of_ble_eq_true rfl, Nat.le_of_ble_eq_true rfl⟩ rfl rfl d_M_findSets_85 ?_
  refine b_lor X d_M_findSets_88 ?_
  refine b_last X 14 rfl (by decide) n66 e66 h66 (uWM_14 G σ n66 ((xl σ 14 n66) ||| r85)) d_M_findSets_89 ?_
  refine b_iinc X (lv' := [(0, .ref (xa σ 0)), (1, .int x1), (2, .int x2), (3, .int (x3 + 1))]) d_M_findSets_90 3 rfl (v := (x3 + 1)) rfl (by decide) [1, 2, 3, 0] rfl ?_
  refine b_goto X (tgt := 60) d_M_findSets_93 (by decide) ?_
  exact k
theorem sg_M_findSets_110_tr {K : KX} {G : GG} {w0 : va_W} {post : PostT} (X : Bd K G w0 "FirstTreesModel" c_M_findSets 4 none rm_M_findSets) (σ : St) (x1 : Int32)  (c115 : (xi σ 0 1) < x1) (hp : post none (WM G σ)) : Lb K G w0 (Qe K G w0 post rm_M_findSets) 4 110 [(0, .ref (xa σ 0)), (1, .int x1)] [] (WM G σ) 0 0 := by
  refine b_iload_n X d_M_findSets_110 1 rfl rfl ?_
  refine b_aload_n X d_M_findSets_111 0 rfl rfl ?_
  refine b_get X fl_M_89 0 rfl (v := .int (xi σ 0 1)) rfl d_M_findSets_112 ?_
  refine b_icmp_gt X (tgt := 164) d_M_findSets_115 (by decide) (fun _ => ?_) (fun h => absurd c115 h)
  exact b_vret X d_M_findSets_164 hp
theorem sg_M_findSets_110_f120 {K : KX} {G : GG} {w0 : va_W} {Q : State → Prop} (X : Bd K G w0 "FirstTreesModel" c_M_findSets 4 none rm_M_findSets) (σ : St) (x1 : Int32)  (c115 : ¬ (xi σ 0 1) < x1) (k : Lb K G w0 Q 4 120 [(0, .ref (xa σ 0)), (1, .int x1), (2, .int 0)] [] (WM G σ) 0 0) : Lb K G w0 Q 4 110 [(0, .ref (xa σ 0)), (1, .int x1)] [] (WM G σ) 0 0 := by
  refine b_iload_n X d_M_findSets_110 1 rfl rfl ?_
  refine b_aload_n X d_M_findSets_111 0 rfl rfl ?_
  refine b_get X fl_M_89 0 rfl (v := .int (xi σ 0 1)) rfl d_M_findSets_112 ?_
  refine b_icmp_gt X (tgt := 164) d_M_findSets_115 (by decide) (fun h => absurd h c115) (fun _ => ?_)
  refine b_iconst X (v := 0) d_M_findSets_118 (by decide) ?_
  refine b_istore_n X (lv' := [(0, .ref (xa σ 0)), (1, .int x1), (2, .int 0)]) d_M_findSets_119 rfl (by decide) [1, 2, 0] rfl ?_
  exact k
theorem sg_M_findSets_120_t110 {K : KX} {G : GG} {w0 : va_W} {Q : State → Prop} (X : Bd K G w0 "FirstTreesModel" c_M_findSets 4 none rm_M_findSets) (σ : St) (x1 : Int32) (x2 : Int32)  (c125 : (xi σ 0 1) ≤ x2) (k : Lb K G w0 Q 4 110 [(0, .ref (xa σ 0)), (1, .int (x1 + 1))] [] (WM G σ) 0 0) : Lb K G w0 Q 4 120 [(0, .ref (xa σ 0)), (1, .int x1), (2, .int x2)] [] (WM G σ) 0 0 := by
  refine b_iload_n X d_M_findSets_120 2 rfl rfl ?_
  refine b_aload_n X d_M_findSets_121 0 rfl rfl ?_
  refine b_get X fl_M_89 0 rfl (v := .int (xi σ 0 1)) rfl d_M_findSets_122 ?_
  refine b_icmp_ge X (tgt := 158) d_M_findSets_125 (by decide) (fun _ => ?_) (fun h => absurd c125 h)
  refine b_iinc X (lv' := [(0, .ref (xa σ 0)), (1, .int (x1 + 1)), (2, .int x2)]) d_M_findSets_158 1 rfl (v := (x1 + 1)) rfl (by decide) [1, 0, 2] rfl ?_
  refine b_goto X (tgt := 110) d_M_findSets_161 (by decide) ?_
  refine Lb.pick (lv' := [(0, .ref (xa σ 0)), (1, .int (x1 + 1))]) [0, 1] rfl ?_
  exact k
theorem sg_M_findSets_120_f130 {K : KX} {G : GG} {w0 : va_W} {Q : State → Prop} (X : Bd K G w0 "FirstTreesModel" c_M_findSets 4 none rm_M_findSets) (σ : St) (x1 : Int32) (x2 : Int32)  (c125 : ¬ (xi σ 0 1) ≤ x2) (k : Lb K G w0 Q 4 130 [(0, .ref (xa σ 0)), (1, .int x1), (2, .int x2), (3, .int 0)] [] (WM G σ) 0 0) : Lb K G w0 Q 4 120 [(0, .ref (xa σ 0)), (1, .int x1), (2, .int x2)] [] (WM G σ) 0 0 := by
  refine b_iload_n X d_M_findSets_120 2 rfl rfl ?_
  refine b_aload_n X d_M_findSets_121 0 rfl rfl ?_
  refine b_get X fl_M_89 0 rfl (v := .int (xi σ 0 1)) rfl d_M_findSets_122 ?_
  refine b_icmp_ge X (tgt := 158) d_M_findSets_125 (by decide) (fun h => absurd h c125) (fun _ => ?_)
  refine b_iconst X (v := 0) d_M_findSets_128 (by decide) ?_
  refine b_istore_n X (lv' := [(0, .ref (xa σ 0)), (1, .int x1), (2, .int x2), (3, .int 0)]) d_M_findSets_129 rfl (by decide) [1, 2, 3, 0] rfl ?_
  exact k
theorem sg_M_findSets_130_t120 {K : KX} {G : GG} {w0 : va_W} {Q : State → Prop} (X : Bd K G w0 "FirstTreesModel" c_M_findSets 4 none rm_M_findSets) (σ : St) (x1 : Int32) (x2 : Int32) (x3 : Int32) (n136 : Nat) (e136 : x2 = nI n136) (h136 : n136 < 16) (c137 : (xi σ 1 n136) ≤ x3) (k : Lb K G w0 Q 4 120 [(0, .ref (xa σ 0)), (1, .int x1), (2, .int (x2 + 1))] [] (WM G σ) 0 0) : Lb K G w0 Q 4 130 [(0, .ref (xa σ 0)), (1, .int x1), (2, .int x2), (3, .int x3)] [] (WM G σ) 0 0 := by
  refine b_iload_n X d_M_findSets_130 3 rfl rfl ?_
  refine b_aload_n X d_M_findSets_131 0 rfl rfl ?_
  refine b_get X fl_M_7 0 rfl (v := .ref (xa σ 1)) rfl d_M_findSets_132 ?_
  refine b_iload_n X d_M_findSets_135 2 rfl rfl ?_
  refine b_iald X 1 rfl (by decide) n136 e136 h136 d_M_findSets_136 ?_
  refine b_icmp_ge X (tgt := 152) d_M_findSets_137 (by decide) (fun _ => ?_) (fun h => absurd c137 h)
  refine b_iinc X (lv' := [(0, .ref (xa σ 0)), (1, .int x1), (2, .int (x2 + 1)), (3, .int x3)]) d_M_findSets_152 2 rfl (v := (x2 + 1)) rfl (by decide) [1, 2, 0, 3] rfl ?_
  refine b_goto X (tgt := 120) d_M_findSets_155 (by decide) ?_
  refine Lb.pick (lv' := [(0, .ref (xa σ 0)), (1, .int x1), (2, .int (x2 + 1))]) [0, 1, 2] rfl ?_
  exact k
theorem sg_M_findSets_130_f130 {K : KX} {G : GG} {w0 : va_W} {Q : State → Prop} (X : Bd K G w0 "FirstTreesModel" c_M_findSets 4 none rm_M_findSets) (σ : St) (x1 : Int32) (x2 : Int32) (x3 : Int32) (n136 : Nat) (q143 : Sq) (e136 : x2 = nI n136) (h136 : n136 < 16) (c137 : ¬ (xi σ 1 n136) ≤ x3) (t143 : Ct y_M_followAlong c_M_followAlong 5 none rm_M_followAlong G [.ref (xa σ 0), .int x2, .int x3] (WM G σ) (eqp (none) (WM G (xa σ, q143)))) (k : Lb K G w0 Q 4 130 [(0, .ref (xa σ 0)), (1, .int x1), (2, .int x2), (3, .int (x3 + 1))] [] (WM G (xa σ, q143)) 0 0) : Lb K G w0 Q 4 130 [(0, .ref (xa σ 0)), (1, .int x1), (2, .int x2), (3, .int x3)] [] (WM G σ) 0 0 := by
  refine b_iload_n X d_M_findSets_130 3 rfl rfl ?_
  refine b_aload_n X d_M_findSets_131 0 rfl rfl ?_
  refine b_get X fl_M_7 0 rfl (v := .ref (xa σ 1)) rfl d_M_findSets_132 ?_
  refine b_iload_n X d_M_findSets_135 2 rfl rfl ?_
  refine b_iald X 1 rfl (by decide) n136 e136 h136 d_M_findSets_136 ?_
  refine b_icmp_ge X (tgt := 152) d_M_findSets_137 (by decide) (fun h => absurd h c137) (fun _ => ?_)
  refine b_aload_n X d_M_findSets_140 0 rfl rfl ?_
  refine b_iload_n X d_M_findSets_141 2 rfl rfl ?_
  refine b_iload_n X d_M_findSets_142 3 rfl rfl ?_
  refine b_dV X cf_M_followAlong ci_M_followAlong ml_M_185 t143 0 rfl rfl (As := [.int x2, .int x3]) (rest := []) rfl (Nat.le_of_ble_eq_true rfl) ⟨Nat.le_of_ble_eq_true rfl, Nat.le_of_ble_eq_true rfl⟩ ⟨Nat.le_of_ble_eq_true rfl, Nat.le_of_ble_eq_true rfl⟩ rfl rfl d_M_findSets_143 ?_
  refine b_iinc X (lv' := [(0, .ref (xa σ 0)), (1, .int x1), (2, .int x2), (3, .int (x3 + 1))]) d_M_findSets_146 3 rfl (v := (x3 + 1)) rfl (by decide) [1, 2, 3, 0] rfl ?_
  refine b_goto X (tgt := 130) d_M_findSets_149 (by decide) ?_
  exact k
theorem sg_M_followAlong_0_2 {K : KX} {G : GG} {w0 : va_W} {Q : State → Prop} (X : Bd K G w0 "FirstTreesModel" c_M_followAlong 5 none rm_M_followAlong) (σ : St) (x1 : Int32) (x2 : Int32)   (k : Lb K G w0 Q 5 2 [(0, .ref (xa σ 0)), (1, .int x1), (2, .int x2), (3, .int 0)] [] (WM G σ) 0 0) : Lb K G w0 Q 5 0 [(0, .ref (xa σ 0)), (1, .int x1), (2, .int x2)] [] (WM G σ) 0 0 := by
  refine b_iconst X (v := 0) d_M_followAlong_0 (by decide) ?_
  refine b_istore_n X (lv' := [(0, .ref (xa σ 0)), (1, .int x1), (2, .int x2), (3, .int 0)]) d_M_followAlong_1 rfl (by decide) [1, 2, 3, 0] rfl ?_
  exact k
theorem sg_M_followAlong_2_tr {K : KX} {G : GG} {w0 : va_W} {post : PostT} (X : Bd K G w0 "FirstTreesModel" c_M_followAlong 5 none rm_M_followAlong) (σ : St) (x1 : Int32) (x2 : Int32) (x3 : Int32) (n6 : Nat) (e6 : ((8 * x1) + x2) = nI n6) (h6 : n6 < 128) (c9 : (xi σ 2 n6) ≤ x3) (hp : post none (WM G σ)) : Lb K G w0 (Qe K G w0 post rm_M_followAlong) 5 2 [(0, .ref (xa σ 0)), (1, .int x1), (2, .int x2), (3, .int x3)] [] (WM G σ) 0 0 := by
  refine b_iload_n X d_M_followAlong_2 3 rfl rfl ?_
  refine b_aload_n X d_M_followAlong_3 0 rfl rfl ?_
  refine b_iload_n X d_M_followAlong_4 1 rfl rfl ?_
  refine b_iload_n X d_M_followAlong_5 2 rfl rfl ?_
  refine b_dV X cf_M_sizeOf ci_M_sizeOf ml_M_77 (ct_M_sizeOf_ G σ x1 x2 n6 e6 h6) 0 rfl rfl (As := [.int x1, .int x2]) (rest := [.int x3]) rfl (Nat.le_of_ble_eq_true rfl) ⟨Nat.le_of_ble_eq_true rfl, Nat.le_of_ble_eq_true rfl⟩ ⟨Nat.le_of_ble_eq_true rfl, Nat.le_of_ble_eq_true rfl⟩ rfl rfl d_M_followAlong_6 ?_
  refine b_icmp_ge X (tgt := 100) d_M_followAlong_9 (by decide) (fun _ => ?_) (fun h => absurd c9 h)
  exact b_vret X d_M_followAlong_100 hp
theorem sg_M_followAlong_2_ft2 {K : KX} {G : GG} {w0 : va_W} {Q : State → Prop} (X : Bd K G w0 "FirstTreesModel" c_M_followAlong 5 none rm_M_followAlong) (σ : St) (x1 : Int32) (x2 : Int32) (x3 : Int32) (n6 : Nat) (n16 : Nat) (e6 : ((8 * x1) + x2) = nI n6) (h6 : n6 < 128) (c9 : ¬ (xi σ 2 n6) ≤ x3) (e16 : (((64 * x1) + (8 * x2)) + x3) = nI n16) (h16 : n16 < 1024) (c26 : (b2i ((xi σ 3 n16) < 0)) = 0) (k : Lb K G w0 Q 5 2 [(0, .ref (xa σ 0)), (1, .int x1), (2, .int x2), (3, .int (x3 + 1))] [] (WM G σ) 0 0) : Lb K G w0 Q 5 2 [(0, .ref (xa σ 0)), (1, .int x1), (2, .int x2), (3, .int x3)] [] (WM G σ) 0 0 := by
  refine b_iload_n X d_M_followAlong_2 3 rfl rfl ?_
  refine b_aload_n X d_M_followAlong_3 0 rfl rfl ?_
  refine b_iload_n X d_M_followAlong_4 1 rfl rfl ?_
  refine b_iload_n X d_M_followAlong_5 2 rfl rfl ?_
  refine b_dV X cf_M_sizeOf ci_M_sizeOf ml_M_77 (ct_M_sizeOf_ G σ x1 x2 n6 e6 h6) 0 rfl rfl (As := [.int x1, .int x2]) (rest := [.int x3]) rfl (Nat.le_of_ble_eq_true rfl) ⟨Nat.le_of_ble_eq_true rfl, Nat.le_of_ble_eq_true rfl⟩ ⟨Nat.le_of_ble_eq_true rfl, Nat.le_of_ble_eq_true rfl⟩ rfl rfl d_M_followAlong_6 ?_
  refine b_icmp_ge X (tgt := 100) d_M_followAlong_9 (by decide) (fun h => absurd h c9) (fun _ => ?_)
  refine b_aload_n X d_M_followAlong_12 0 rfl rfl ?_
  refine b_iload_n X d_M_followAlong_13 1 rfl rfl ?_
  refine b_iload_n X d_M_followAlong_14 2 rfl rfl ?_
  refine b_iload_n X d_M_followAlong_15 3 rfl rfl ?_
  refine b_dV X cf_M_symbolAt ci_M_symbolAt ml_M_81 (ct_M_symbolAt_ G σ x1 x2 x3 n16 e16 h16) 0 rfl rfl (As := [.int x1, .int x2, .int x3]) (rest := []) rfl (Nat.le_of_ble_eq_true rfl) ⟨Nat.le_of_ble_eq_true rfl, Nat.le_of_ble_eq_true rfl⟩ ⟨Nat.le_of_ble_eq_true rfl, Nat.le_of_ble_eq_true rfl⟩ rfl rfl d_M_followAlong_16 ?_
  refine b_istore X (lv' := [(0, .ref (xa σ 0)), (1, .int x1), (2, .int x2), (3, .int x3), (4, .int (xi σ 3 n16))]) d_M_followAlong_19 (by decide) [1, 2, 3, 4, 0] rfl ?_
  refine b_iload X d_M_followAlong_21 4 rfl ?_
  refine b_dS X cf_M_isRule ci_M_isRule ml_M_85 (ct_M_isRule G σ (xi σ 3 n16)) (As := [.int (xi σ 3 n16)]) (rest := []) rfl (Nat.le_of_ble_eq_true rfl) ⟨Nat.le_of_ble_eq_true rfl, Nat.le_of_ble_eq_true rfl⟩ ⟨Nat.le_of_ble_eq_true rfl, Nat.le_of_ble_eq_true rfl⟩ rfl rfl d_M_followAlong_23 ?_
  refine b_if_eq X (tgt := 94) d_M_followAlong_26 (by decide) (fun _ => ?_) (fun h => absurd c26 h)
  refine b_iinc X (lv' := [(0, .ref (xa σ 0)), (1, .int x1), (2, .int x2), (3, .int (x3 + 1)), (4, .int (xi σ 3 n16))]) d_M_followAlong_94 3 rfl (v := (x3 + 1)) rfl (by decide) [1, 2, 3, 0, 4] rfl ?_
  refine b_goto X (tgt := 2) d_M_followAlong_97 (by decide) ?_
  refine Lb.pick (lv' := [(0, .ref (xa σ 0)), (1, .int x1), (2, .int x2), (3, .int (x3 + 1))]) [0, 1, 2, 3] rfl ?_
  exact k
theorem sg_M_followAlong_2_fft2 {K : KX} {G : GG} {w0 : va_W} {Q : State → Prop} (X : Bd K G w0 "FirstTreesModel" c_M_followAlong 5 none rm_M_followAlong) (σ : St) (x1 : Int32) (x2 : Int32) (x3 : Int32) (n6 : Nat) (n16 : Nat) (n45 : Nat) (r52 : Int64) (r63 : Int32) (e6 : ((8 * x1) + x2) = nI n6) (h6 : n6 < 128) (c9 : ¬ (xi σ 2 n6) ≤ x3) (e16 : (((64 * x1) + (8 * x2)) + x3) = nI n16) (h16 : n16 < 1024) (c26 : ¬ (b2i ((xi σ 3 n16) < 0)) = 0) (e45 : ((-1) - (xi σ 3 n16)) = nI n45) (h45 : n45 < 16) (t52 : Ct y_M_firstOf c_M_firstOf 9 (some .long) rm_M_firstOf G [.ref (xa σ 0), .int x1, .int x2, .int (x3 + 1)] (WM G σ) (eqp (some (.long r52)) (WM G σ))) (t63 : Ct y_M_rowIsNothing c_M_rowIsNothing 7 (some .boolean) rm_M_rowIsNothing G [.ref (xa σ 0), .int x1, .int x2, .int (x3 + 1)] (WM G (wl σ 15 n45 ((xl σ 15 n45) ||| r52))) (eqp (some (.int r63)) (WM G (wl σ 15 n45 ((xl σ 15 n45) ||| r52))))) (c66 : r63 = 0) (k : Lb K G w0 Q 5 2 [(0, .ref (xa σ 0)), (1, .int x1), (2, .int x2), (3, .int (x3 + 1))] [] (WM G (wl σ 15 n45 ((xl σ 15 n45) ||| r52))) 0 0) : Lb K G w0 Q 5 2 [(0, .ref (xa σ 0)), (1, .int x1), (2, .int x2), (3, .int x3)] [] (WM G σ) 0 0 := by
  refine b_iload_n X d_M_followAlong_2 3 rfl rfl ?_
  refine b_aload_n X d_M_followAlong_3 0 rfl rfl ?_
  refine b_iload_n X d_M_followAlong_4 1 rfl rfl ?_
  refine b_iload_n X d_M_followAlong_5 2 rfl rfl ?_
  refine b_dV X cf_M_sizeOf ci_M_sizeOf ml_M_77 (ct_M_sizeOf_ G σ x1 x2 n6 e6 h6) 0 rfl rfl (As := [.int x1, .int x2]) (rest := [.int x3]) rfl (Nat.le_of_ble_eq_true rfl) ⟨Nat.le_of_ble_eq_true rfl, Nat.le_of_ble_eq_true rfl⟩ ⟨Nat.le_of_ble_eq_true rfl, Nat.le_of_ble_eq_true rfl⟩ rfl rfl d_M_followAlong_6 ?_
  refine b_icmp_ge X (tgt := 100) d_M_followAlong_9 (by decide) (fun h => absurd h c9) (fun _ => ?_)
  refine b_aload_n X d_M_followAlong_12 0 rfl rfl ?_
  refine b_iload_n X d_M_followAlong_13 1 rfl rfl ?_
  refine b_iload_n X d_M_followAlong_14 2 rfl rfl ?_
  refine b_iload_n X d_M_followAlong_15 3 rfl rfl ?_
  refine b_dV X cf_M_symbolAt ci_M_symbolAt ml_M_81 (ct_M_symbolAt_ G σ x1 x2 x3 n16 e16 h16) 0 rfl rfl (As := [.int x1, .int x2, .int x3]) (rest := []) rfl (Nat.le_of_ble_eq_true rfl) ⟨Nat.le_of_ble_eq_true rfl, Nat.le_of_ble_eq_true rfl⟩ ⟨Nat.le_of_ble_eq_true rfl, Nat.le_of_ble_eq_true rfl⟩ rfl rfl d_M_followAlong_16 ?_
  refine b_istore X (lv' := [(0, .ref (xa σ 0)), (1, .int x1), (2, .int x2), (3, .int x3), (4, .int (xi σ 3 n16))]) d_M_followAlong_19 (by decide) [1, 2, 3, 4, 0] rfl ?_
  refine b_iload X d_M_followAlong_21 4 rfl ?_
  refine b_dS X cf_M_isRule ci_M_isRule ml_M_85 (ct_M_isRule G σ (xi σ 3 n16)) (As := [.int (xi σ 3 n16)]) (rest := []) rfl (Nat.le_of_ble_eq_true rfl) ⟨Nat.le_of_ble_eq_true rfl, Nat.le_of_ble_eq_true rfl⟩ ⟨Nat.le_of_ble_eq_true rfl, Nat.le_of_ble_eq_true rfl⟩ rfl rfl d_M_followAlong_23 ?_
  refine b_if_eq X (tgt := 94) d_M_followAlong_26 (by decide) (fun h => absurd h c26) (fun _ => ?_)
  refine b_aload_n X d_M_followAlong_29 0 rfl rfl ?_
  refine b_get X fl_M_55 0 rfl (v := .ref (xa σ 15)) rfl d_M_followAlong_30 ?_
  refine b_iconst X (v := (-1)) d_M_followAlong_33 (by decide) ?_
  refine b_iload X d_M_followAlong_34 4 rfl ?_
  refine b_isub X d_M_followAlong_36 ?_
  refine b_aload_n X d_M_followAlong_37 0 rfl rfl ?_
  refine b_get X fl_M_55 0 rfl (v := .ref (xa σ 15)) rfl d_M_followAlong_38 ?_
  refine b_iconst X (v := (-1)) d_M_followAlong_41 (by decide) ?_
  refine b_iload X d_M_followAlong_42 4 rfl ?_
  refine b_isub X d_M_followAlong_44 ?_
  refine b_lald X 15 rfl (by decide) n45 e45 h45 d_M_followAlong_45 ?_
  refine b_aload_n X d_M_followAlong_46 0 rfl rfl ?_
  refine b_iload_n X d_M_followAlong_47 1 rfl rfl ?_
  refine b_iload_n X d_M_followAlong_48 2 rfl rfl ?_
  refine b_iload_n X d_M_followAlong_49 3 rfl rfl ?_
  refine b_iconst X (v := 1) d_M_followAlong_50 (by decide) ?_
  refine b_iadd X d_M_followAlong_51 ?_
  refine b_dV X cf_M_firstOf ci_M_firstOf ml_M_181 t52 0 rfl rfl (As := [.int x1, .int x2, .int (x3 + 1)]) (rest := [.long (xl σ 15 n45), .int ((-1) - (xi σ 3 n16)), .ref (xa σ 15)]) rfl (Nat.le_of_ble_eq_true rfl) ⟨Nat.le_of_ble_eq_true rfl, Nat.le_of_ble_eq_true rfl⟩ ⟨Nat.le_of_ble_eq_true rfl, Nat.le_of_ble_eq_true rfl⟩ rfl rfl d_M_followAlong_52 ?_
  refine b_lor X d_M_followAlong_55 ?_
  refine b_last X 15 rfl (by decide) n45 e45 h45 (uWM_15 G σ n45 ((xl σ 15 n45) ||| r52)) d_M_followAlong_56 ?_
  refine b_aload_n X d_M_followAlong_57 0 rfl rfl ?_
  refine b_iload_n X d_M_followAlong_58 1 rfl rfl ?_
  refine b_iload_n X d_M_followAlong_59 2 rfl rfl ?_
  refine b_iload_n X d_M_followAlong_60 3 rfl rfl ?_
  refine b_iconst X (v := 1) d_M_followAlong_61 (by decide) ?_
  refine b_iadd X d_M_followAlong_62 ?_
  refine b_dV X cf_M_rowIsNothing ci_M_rowIsNothing ml_M_92 t63 0 rfl rfl (As := [.int x1, .int x2, .int (x3 + 1)]) (rest := []) rfl (Nat.le_of_ble_eq_true rfl) ⟨Nat.le_of_ble_eq_true rfl, Nat.le_of_ble_eq_true rfl⟩ ⟨Nat.le_of_ble_eq_true rfl, Nat.le_of_ble_eq_true rfl⟩ rfl rfl d_M_followAlong_63 ?_
  refine b_if_eq X (tgt := 94) d_M_followAlong_66 (by decide) (fun _ => ?_) (fun h => absurd c66 h)
  refine b_iinc X (lv' := [(0, .ref (xa σ 0)), (1, .int x1), (2, .int x2), (3, .int (x3 + 1)), (4, .int (xi σ 3 n16))]) d_M_followAlong_94 3 rfl (v := (x3 + 1)) rfl (by decide) [1, 2, 3, 0, 4] rfl ?_
  refine b_goto X (tgt := 2) d_M_followAlong_97 (by decide) ?_
  refine Lb.pick (lv' := [(0, .ref (xa σ 0)), (1, .int x1), (2, .int x2), (3, .int (x3 + 1))]) [0, 1, 2, 3] rfl ?_
  exact k
theorem sg_M_followAlong_2_fff2 {K : KX} {G : GG} {w0 : va_W} {Q : State → Prop} (X : Bd K G w0 "FirstTreesModel" c_M_followAlong 5 none rm_M_followAlong) (σ : St) (x1 : Int32) (x2 : Int32) (x3 : Int32) (n6 : Nat) (n16 : Nat) (n45 : Nat) (r52 : Int64) (r63 : Int32) (n91 : Nat) (e6 : ((8 * x1) + x2) = nI n6) (h6 : n6 < 128) (c9 : ¬ (xi σ 2 n6) ≤ x3) (e16 : (((64 * x1) + (8 * x2)) + x3) = nI n16) (h16 : n16 < 1024) (c26 : ¬ (b2i ((xi σ 3 n16) < 0)) = 0) (e45 : ((-1) - (xi σ 3 n16)) = nI n45) (h45 : n45 < 16) (t52 : Ct y_M_firstOf c_M_firstOf 9 (some .long) rm_M_firstOf G [.ref (xa σ 0), .int x1, .int x2, .int (x3 + 1)] (WM G σ) (eqp (some (.long r52)) (WM G σ))) (t63 : Ct y_M_rowIsNothing c_M_rowIsNothing 7 (some .boolean) rm_M_rowIsNothing G [.ref (xa σ 0), .int x1, .int x2, .int (x3 + 1)] (WM G (wl σ 15 n45 ((xl σ 15 n45) ||| r52))) (eqp (some (.int r63)) (WM G (wl σ 15 n45 ((xl σ 15 n45) ||| r52))))) (c66 : ¬ r63 = 0) (e91 : x1 = nI n91) (h91 : n91 < 16) (k : Lb K G w0 Q 5 2 [(0, .ref (xa σ 0)), (1, .int x1), (2, .int x2), (3, .int (x3 + 1))] [] (WM G (wl (wl σ 15 n45 ((xl σ 15 n45) ||| r52)) 15 n45 ((xl (wl σ 15 n45 ((xl σ 15 n45) ||| r52)) 15 n45) ||| (xl (wl σ 15 n45 ((xl σ 15 n45) ||| r52)) 15 n91)))) 0 0) : Lb K G w0 Q 5 2 [(0, .ref (xa σ 0)), (1, .int x1), (2, .int x2), (3, .int x3)] [] (WM G σ) 0 0 := by
  refine b_iload_n X d_M_followAlong_2 3 rfl rfl ?_
  refine b_aload_n X d_M_followAlong_3 0 rfl rfl ?_
  refine b_iload_n X d_M_followAlong_4 1 rfl rfl ?_
  refine b_iload_n X d_M_followAlong_5 2 rfl rfl ?_
  refine b_dV X cf_M_sizeOf ci_M_sizeOf ml_M_77 (ct_M_sizeOf_ G σ x1 x2 n6 e6 h6) 0 rfl rfl (As := [.int x1, .int x2]) (rest := [.int x3]) rfl (Nat.le_of_ble_eq_true rfl) ⟨Nat.le_of_ble_eq_true rfl, Nat.le_of_ble_eq_true rfl⟩ ⟨Nat.le_of_ble_eq_true rfl, Nat.le_of_ble_eq_true rfl⟩ rfl rfl d_M_followAlong_6 ?_
  refine b_icmp_ge X (tgt := 100) d_M_followAlong_9 (by decide) (fun h => absurd h c9) (fun _ => ?_)
  refine b_aload_n X d_M_followAlong_12 0 rfl rfl ?_
  refine b_iload_n X d_M_followAlong_13 1 rfl rfl ?_
  refine b_iload_n X d_M_followAlong_14 2 rfl rfl ?_
  refine b_iload_n X d_M_followAlong_15 3 rfl rfl ?_
  refine b_dV X cf_M_symbolAt ci_M_symbolAt ml_M_81 (ct_M_symbolAt_ G σ x1 x2 x3 n16 e16 h16) 0 rfl rfl (As := [.int x1, .int x2, .int x3]) (rest := []) rfl (Nat.le_of_ble_eq_true rfl) ⟨Nat.le_of_ble_eq_true rfl, Nat.le_of_ble_eq_true rfl⟩ ⟨Nat.le_of_ble_eq_true rfl, Nat.le_of_ble_eq_true rfl⟩ rfl rfl d_M_followAlong_16 ?_
  refine b_istore X (lv' := [(0, .ref (xa σ 0)), (1, .int x1), (2, .int x2), (3, .int x3), (4, .int (xi σ 3 n16))]) d_M_followAlong_19 (by decide) [1, 2, 3, 4, 0] rfl ?_
  refine b_iload X d_M_followAlong_21 4 rfl ?_
  refine b_dS X cf_M_isRule ci_M_isRule ml_M_85 (ct_M_isRule G σ (xi σ 3 n16)) (As := [.int (xi σ 3 n16)]) (rest := []) rfl (Nat.le_of_ble_eq_true rfl) ⟨Nat.le_of_ble_eq_true rfl, Nat.le_of_ble_eq_true rfl⟩ ⟨Nat.le_of_ble_eq_true rfl, Nat.le_of_ble_eq_true rfl⟩ rfl rfl d_M_followAlong_23 ?_
  refine b_if_eq X (tgt := 94) d_M_followAlong_26 (by decide) (fun h => absurd h c26) (fun _ => ?_)
  refine b_aload_n X d_M_followAlong_29 0 rfl rfl ?_
  refine b_get X fl_M_55 0 rfl (v := .ref (xa σ 15)) rfl d_M_followAlong_30 ?_
  refine b_iconst X (v := (-1)) d_M_followAlong_33 (by decide) ?_
  refine b_iload X d_M_followAlong_34 4 rfl ?_
  refine b_isub X d_M_followAlong_36 ?_
  refine b_aload_n X d_M_followAlong_37 0 rfl rfl ?_
  refine b_get X fl_M_55 0 rfl (v := .ref (xa σ 15)) rfl d_M_followAlong_38 ?_
  refine b_iconst X (v := (-1)) d_M_followAlong_41 (by decide) ?_
  refine b_iload X d_M_followAlong_42 4 rfl ?_
  refine b_isub X d_M_followAlong_44 ?_
  refine b_lald X 15 rfl (by decide) n45 e45 h45 d_M_followAlong_45 ?_
  refine b_aload_n X d_M_followAlong_46 0 rfl rfl ?_
  refine b_iload_n X d_M_followAlong_47 1 rfl rfl ?_
  refine b_iload_n X d_M_followAlong_48 2 rfl rfl ?_
  refine b_iload_n X d_M_followAlong_49 3 rfl rfl ?_
  refine b_iconst X (v := 1) d_M_followAlong_50 (by decide) ?_
  refine b_iadd X d_M_followAlong_51 ?_
  refine b_dV X cf_M_firstOf ci_M_firstOf ml_M_181 t52 0 rfl rfl (As := [.int x1, .int x2, .int (x3 + 1)]) (rest := [.long (xl σ 15 n45), .int ((-1) - (xi σ 3 n16)), .ref (xa σ 15)]) rfl (Nat.le_of_ble_eq_true rfl) ⟨Nat.le_of_ble_eq_true rfl, Nat.le_of_ble_eq_true rfl⟩ ⟨Nat.le_of_ble_eq_true rfl, Nat.le_of_ble_eq_true rfl⟩ rfl rfl d_M_followAlong_52 ?_
  refine b_lor X d_M_followAlong_55 ?_
  refine b_last X 15 rfl (by decide) n45 e45 h45 (uWM_15 G σ n45 ((xl σ 15 n45) ||| r52)) d_M_followAlong_56 ?_
  refine b_aload_n X d_M_followAlong_57 0 rfl rfl ?_
  refine b_iload_n X d_M_followAlong_58 1 rfl rfl ?_
  refine b_iload_n X d_M_followAlong_59 2 rfl rfl ?_
  refine b_iload_n X d_M_followAlong_60 3 rfl rfl ?_
  refine b_iconst X (v := 1) d_M_followAlong_61 (by decide) ?_
  refine b_iadd X d_M_followAlong_62 ?_
  refine b_dV X cf_M_rowIsNothing ci_M_rowIsNothing ml_M_92 t63 0 rfl rfl (As := [.int x1, .int x2, .int (x3 + 1)]) (rest := []) rfl (Nat.le_of_ble_eq_true rfl) ⟨Nat.le_of_ble_eq_true rfl, Nat.le_of_ble_eq_true rfl⟩ ⟨Nat.le_of_ble_eq_true rfl, Nat.le_of_ble_eq_true rfl⟩ rfl rfl d_M_followAlong_63 ?_
  refine b_if_eq X (tgt := 94) d_M_followAlong_66 (by decide) (fun h => absurd h c66) (fun _ => ?_)
  refine b_aload_n X d_M_followAlong_69 0 rfl rfl ?_
  refine b_get X fl_M_55 0 rfl (v := .ref (xa σ 15)) rfl d_M_followAlong_70 ?_
  refine b_iconst X (v := (-1)) d_M_followAlong_73 (by decide) ?_
  refine b_iload X d_M_followAlong_74 4 rfl ?_
  refine b_isub X d_M_followAlong_76 ?_
  refine b_aload_n X d_M_followAlong_77 0 rfl rfl ?_
  refine b_get X fl_M_55 0 rfl (v := .ref (xa σ 15)) rfl d_M_followAlong_78 ?_
  refine b_iconst X (v := (-1)) d_M_followAlong_81 (by decide) ?_
  refine b_iload X d_M_followAlong_82 4 rfl ?_
  refine b_isub X d_M_followAlong_84 ?_
  refine b_lald X 15 rfl (by decide) n45 e45 h45 d_M_followAlong_85 ?_
  refine b_aload_n X d_M_followAlong_86 0 rfl rfl ?_
  refine b_get X fl_M_55 0 rfl (v := .ref (xa σ 15)) rfl d_M_followAlong_87 ?_
  refine b_iload_n X d_M_followAlong_90 1 rfl rfl ?_
  refine b_lald X 15 rfl (by decide) n91 e91 h91 d_M_followAlong_91 ?_
  refine b_lor X d_M_followAlong_92 ?_
  refine b_last X 15 rfl (by decide) n45 e45 h45 (uWM_15 G (wl σ 15 n45 ((xl σ 15 n45) ||| r52)) n45 ((xl (wl σ 15 n45 ((xl σ 15 n45) ||| r52)) 15 n45) ||| (xl (wl σ 15 n45 ((xl σ 15 n45) ||| r52)) 15 n91))) d_M_followAlong_93 ?_
  refine b_iinc X (lv' := [(0, .ref (xa σ 0)), (1, .int x1), (2, .int x2), (3, .int (x3 + 1)), (4, .int (xi σ 3 n16))]) d_M_followAlong_94 3 rfl (v := (x3 + 1)) rfl (by decide) [1, 2, 3, 0, 4] rfl ?_
  refine b_goto X (tgt := 2) d_M_followAlong_97 (by decide) ?_
  refine Lb.pick (lv' := [(0, .ref (xa σ 0)), (1, .int x1), (2, .int x2), (3, .int (x3 + 1))]) [0, 1, 2, 3] rfl ?_
  exact k
theorem ct_M_look_tt (G : GG) (σ : St) (x1 : Int32) (r2 : Int32) (q2 : Sq) (q36 : Sq) (t2 : Ct y_M_faultOf c_M_faultOf 4 (some .int) rm_M_faultOf G [.ref (xa σ 0)] (WM G σ) (eqp (some (.int r2)) (WM G (xa σ, q2)))) (c5 : r2 = 0) (c17 : ¬ (b2i (0 ≤ x1 ∧ x1 < xi (xa σ, q2) 0 1)) = 0) (t36 : Ct y_M_findSets c_M_findSets 4 none rm_M_findSets G [.ref (xa σ 0)] (WM G (wi (xa σ, q2) 0 0 0)) (eqp (none) (WM G (xa σ, q36)))) : Ct y_M_look c_M_look 2 none rm_M_look G [.ref (xa σ 0), .int x1] (WM G σ) (eqp none (WM G (xa σ, q36))) := by
  refine Ct.of (by decide +kernel) (Nat.le_of_ble_eq_true rfl) (fun K X => ?_)
  show Lb K G _ _ 2 0 [(0, .ref (xa σ 0)), (1, .int x1)] [] _ 0 0
  refine b_aload_n X d_M_look_0 0 rfl rfl ?_
  refine b_aload_n X d_M_look_1 0 rfl rfl ?_
  refine b_dV X cf_M_faultOf ci_M_faultOf ml_M_151 t2 0 rfl rfl (As := []) (rest := [.ref (xa σ 0)]) rfl (Nat.le_of_ble_eq_true rfl) ⟨Nat.le_of_ble_eq_true rfl, Nat.le_of_ble_eq_true rfl⟩ ⟨Nat.le_of_ble_eq_true rfl, Nat.le_of_ble_eq_true rfl⟩ rfl rfl d_M_look_2 ?_
  refine b_if_eq X (tgt := 12) d_M_look_5 (by decide) (fun _ => ?_) (fun h => absurd c5 h)
  refine b_aload_n X d_M_look_12 0 rfl rfl ?_
  refine b_iload_n X d_M_look_13 1 rfl rfl ?_
  refine b_dV X cf_M_isThere ci_M_isThere ml_M_168 (ct_M_isThere G (xa σ, q2) x1) 0 rfl rfl (As := [.int x1]) (rest := [.ref (xa σ 0)]) rfl (Nat.le_of_ble_eq_true rfl) ⟨Nat.le_of_ble_eq_true rfl, Nat.le_of_ble_eq_true rfl⟩ ⟨Nat.le_of_ble_eq_true rfl, Nat.le_of_ble_eq_true rfl⟩ rfl rfl d_M_look_14 ?_
  refine b_if_ne X (tgt := 24) d_M_look_17 (by decide) (fun _ => ?_) (fun h => absurd h c17)
  refine b_iconst X (v := 0) d_M_look_24 (by decide) ?_
  refine b_put X fl_M_73 pl_M_thrown 0 rfl rfl rfl (Nat.le_of_ble_eq_true rfl) (uWM_0_thrown G (xa σ, q2) 0) d_M_look_25 ?_
  refine b_aload_n X d_M_look_28 0 rfl rfl ?_
  refine b_get X fl_M_73 0 rfl (v := .int 0) rfl d_M_look_29 ?_
  refine b_if_ne X (tgt := 39) d_M_look_32 (by decide) (fun h => absurd h (by decide)) (fun _ => ?_)
  refine b_aload_n X d_M_look_35 0 rfl rfl ?_
  refine b_dV X cf_M_findSets ci_M_findSets ml_M_189 t36 0 rfl rfl (As := []) (rest := []) rfl (Nat.le_of_ble_eq_true rfl) ⟨Nat.le_of_ble_eq_true rfl, Nat.le_of_ble_eq_true rfl⟩ ⟨Nat.le_of_ble_eq_true rfl, Nat.le_of_ble_eq_true rfl⟩ rfl rfl d_M_look_36 ?_
  exact b_vret X d_M_look_39 ⟨rfl, rfl⟩
theorem ct_M_look_tf (G : GG) (σ : St) (x1 : Int32) (r2 : Int32) (q2 : Sq) (t2 : Ct y_M_faultOf c_M_faultOf 4 (some .int) rm_M_faultOf G [.ref (xa σ 0)] (WM G σ) (eqp (some (.int r2)) (WM G (xa σ, q2)))) (c5 : r2 = 0) (c17 : (b2i (0 ≤ x1 ∧ x1 < xi (xa σ, q2) 0 1)) = 0) : Ct y_M_look c_M_look 2 none rm_M_look G [.ref (xa σ 0), .int x1] (WM G σ) (eqp none (WM G (wi (xa σ, q2) 0 0 2))) := by
  refine Ct.of (by decide +kernel) (Nat.le_of_ble_eq_true rfl) (fun K X => ?_)
  show Lb K G _ _ 2 0 [(0, .ref (xa σ 0)), (1, .int x1)] [] _ 0 0
  refine b_aload_n X d_M_look_0 0 rfl rfl ?_
  refine b_aload_n X d_M_look_1 0 rfl rfl ?_
  refine b_dV X cf_M_faultOf ci_M_faultOf ml_M_151 t2 0 rfl rfl (As := []) (rest := [.ref (xa σ 0)]) rfl (Nat.le_of_ble_eq_true rfl) ⟨Nat.le_of_ble_eq_true rfl, Nat.le_of_ble_eq_true rfl⟩ ⟨Nat.le_of_ble_eq_true rfl, Nat.le_of_ble_eq_true rfl⟩ rfl rfl d_M_look_2 ?_
  refine b_if_eq X (tgt := 12) d_M_look_5 (by decide) (fun _ => ?_) (fun h => absurd c5 h)
  refine b_aload_n X d_M_look_12 0 rfl rfl ?_
  refine b_iload_n X d_M_look_13 1 rfl rfl ?_
  refine b_dV X cf_M_isThere ci_M_isThere ml_M_168 (ct_M_isThere G (xa σ, q2) x1) 0 rfl rfl (As := [.int x1]) (rest := [.ref (xa σ 0)]) rfl (Nat.le_of_ble_eq_true rfl) ⟨Nat.le_of_ble_eq_true rfl, Nat.le_of_ble_eq_true rfl⟩ ⟨Nat.le_of_ble_eq_true rfl, Nat.le_of_ble_eq_true rfl⟩ rfl rfl d_M_look_14 ?_
  refine b_if_ne X (tgt := 24) d_M_look_17 (by decide) (fun h => absurd c17 h) (fun _ => ?_)
  refine b_iconst X (v := 2) d_M_look_20 (by decide) ?_
  refine b_goto X (tgt := 25) d_M_look_21 (by decide) ?_
  refine b_put X fl_M_73 pl_M_thrown 0 rfl rfl rfl (Nat.le_of_ble_eq_true rfl) (uWM_0_thrown G (xa σ, q2) 2) d_M_look_25 ?_
  refine b_aload_n X d_M_look_28 0 rfl rfl ?_
  refine b_get X fl_M_73 0 rfl (v := .int 2) rfl d_M_look_29 ?_
  refine b_if_ne X (tgt := 39) d_M_look_32 (by decide) (fun _ => ?_) (fun h => absurd h (by decide))
  exact b_vret X d_M_look_39 ⟨rfl, rfl⟩
theorem ct_M_look_f (G : GG) (σ : St) (x1 : Int32) (r2 : Int32) (q2 : Sq) (t2 : Ct y_M_faultOf c_M_faultOf 4 (some .int) rm_M_faultOf G [.ref (xa σ 0)] (WM G σ) (eqp (some (.int r2)) (WM G (xa σ, q2)))) (c5 : ¬ r2 = 0) : Ct y_M_look c_M_look 2 none rm_M_look G [.ref (xa σ 0), .int x1] (WM G σ) (eqp none (WM G (wi (xa σ, q2) 0 0 1))) := by
  refine Ct.of (by decide +kernel) (Nat.le_of_ble_eq_true rfl) (fun K X => ?_)
  show Lb K G _ _ 2 0 [(0, .ref (xa σ 0)), (1, .int x1)] [] _ 0 0
  refine b_aload_n X d_M_look_0 0 rfl rfl ?_
  refine b_aload_n X d_M_look_1 0 rfl rfl ?_
  refine b_dV X cf_M_faultOf ci_M_faultOf ml_M_151 t2 0 rfl rfl (As := []) (rest := [.ref (xa σ 0)]) rfl (Nat.le_of_ble_eq_true rfl) ⟨Nat.le_of_ble_eq_true rfl, Nat.le_of_ble_eq_true rfl⟩ ⟨Nat.le_of_ble_eq_true rfl, Nat.le_of_ble_eq_true rfl⟩ rfl rfl d_M_look_2 ?_
  refine b_if_eq X (tgt := 12) d_M_look_5 (by decide) (fun h => absurd h c5) (fun _ => ?_)
  refine b_iconst X (v := 1) d_M_look_8 (by decide) ?_
  refine b_goto X (tgt := 25) d_M_look_9 (by decide) ?_
  refine b_put X fl_M_73 pl_M_thrown 0 rfl rfl rfl (Nat.le_of_ble_eq_true rfl) (uWM_0_thrown G (xa σ, q2) 1) d_M_look_25 ?_
  refine b_aload_n X d_M_look_28 0 rfl rfl ?_
  refine b_get X fl_M_73 0 rfl (v := .int 1) rfl d_M_look_29 ?_
  refine b_if_ne X (tgt := 39) d_M_look_32 (by decide) (fun _ => ?_) (fun h => absurd h (by decide))
  exact b_vret X d_M_look_39 ⟨rfl, rfl⟩
theorem ct_M_isNothing_t (G : GG) (σ : St) (x1 : Int32) (q2 : Sq) (t2 : Ct y_M_look c_M_look 2 none rm_M_look G [.ref (xa σ 0), .int x1] (WM G σ) (eqp (none) (WM G (xa σ, q2)))) (c9 : ¬ (xi (xa σ, q2) 0 0) = 0) : Ct y_M_isNothing c_M_isNothing 2 (some .boolean) rm_M_isNothing G [.ref (xa σ 0), .int x1] (WM G σ) (eqp (some (.int 0)) (WM G (xa σ, q2))) := by
  refine Ct.of (by decide +kernel) (Nat.le_of_ble_eq_true rfl) (fun K X => ?_)
  show Lb K G _ _ 2 0 [(0, .ref (xa σ 0)), (1, .int x1)] [] _ 0 0
  refine b_aload_n X d_M_isNothing_0 0 rfl rfl ?_
  refine b_iload_n X d_M_isNothing_1 1 rfl rfl ?_
  refine b_dV X cf_M_look ci_M_look ml_M_192 t2 0 rfl rfl (As := [.int x1]) (rest := []) rfl (Nat.le_of_ble_eq_true rfl) ⟨Nat.le_of_ble_eq_true rfl, Nat.le_of_ble_eq_true rfl⟩ ⟨Nat.le_of_ble_eq_true rfl, Nat.le_of_ble_eq_true rfl⟩ rfl rfl d_M_isNothing_2 ?_
  refine b_aload_n X d_M_isNothing_5 0 rfl rfl ?_
  refine b_get X fl_M_73 0 rfl (v := .int (xi (xa σ, q2) 0 0)) rfl d_M_isNothing_6 ?_
  refine b_if_ne X (tgt := 25) d_M_isNothing_9 (by decide) (fun _ => ?_) (fun h => absurd h c9)
  refine b_iconst X (v := 0) d_M_isNothing_25 (by decide) ?_
  exact b_zret X rfl d_M_isNothing_26 ⟨rfl, rfl⟩
theorem ct_M_isNothing_ft (G : GG) (σ : St) (x1 : Int32) (q2 : Sq) (n17 : Nat) (t2 : Ct y_M_look c_M_look 2 none rm_M_look G [.ref (xa σ 0), .int x1] (WM G σ) (eqp (none) (WM G (xa σ, q2)))) (c9 : (xi (xa σ, q2) 0 0) = 0) (e17 : x1 = nI n17) (h17 : n17 < 16) (c18 : (xi (xa σ, q2) 4 n17) = 0) : Ct y_M_isNothing c_M_isNothing 2 (some .boolean) rm_M_isNothing G [.ref (xa σ 0), .int x1] (WM G σ) (eqp (some (.int 0)) (WM G (xa σ, q2))) := by
  refine Ct.of (by decide +kernel) (Nat.le_of_ble_eq_true rfl) (fun K X => ?_)
  show Lb K G _ _ 2 0 [(0, .ref (xa σ 0)), (1, .int x1)] [] _ 0 0
  refine b_aload_n X d_M_isNothing_0 0 rfl rfl ?_
  refine b_iload_n X d_M_isNothing_1 1 rfl rfl ?_
  refine b_dV X cf_M_look ci_M_look ml_M_192 t2 0 rfl rfl (As := [.int x1]) (rest := []) rfl (Nat.le_of_ble_eq_true rfl) ⟨Nat.le_of_ble_eq_true rfl, Nat.le_of_ble_eq_true rfl⟩ ⟨Nat.le_of_ble_eq_true rfl, Nat.le_of_ble_eq_true rfl⟩ rfl rfl d_M_isNothing_2 ?_
  refine b_aload_n X d_M_isNothing_5 0 rfl rfl ?_
  refine b_get X fl_M_73 0 rfl (v := .int (xi (xa σ, q2) 0 0)) rfl d_M_isNothing_6 ?_
  refine b_if_ne X (tgt := 25) d_M_isNothing_9 (by decide) (fun h => absurd c9 h) (fun _ => ?_)
  refine b_aload_n X d_M_isNothing_12 0 rfl rfl ?_
  refine b_get X fl_M_19 0 rfl (v := .ref (xa σ 4)) rfl d_M_isNothing_13 ?_
  refine b_iload_n X d_M_isNothing_16 1 rfl rfl ?_
  refine b_zald X 4 rfl (by decide) n17 e17 h17 d_M_isNothing_17 ?_
  refine b_if_eq X (tgt := 25) d_M_isNothing_18 (by decide) (fun _ => ?_) (fun h => absurd c18 h)
  refine b_iconst X (v := 0) d_M_isNothing_25 (by decide) ?_
  exact b_zret X rfl d_M_isNothing_26 ⟨rfl, rfl⟩
theorem ct_M_isNothing_ff (G : GG) (σ : St) (x1 : Int32) (q2 : Sq) (n17 : Nat) (t2 : Ct y_M_look c_M_look 2 none rm_M_look G [.ref (xa σ 0), .int x1] (WM G σ) (eqp (none) (WM G (xa σ, q2)))) (c9 : (xi (xa σ, q2) 0 0) = 0) (e17 : x1 = nI n17) (h17 : n17 < 16) (c18 : ¬ (xi (xa σ, q2) 4 n17) = 0) : Ct y_M_isNothing c_M_isNothing 2 (some .boolean) rm_M_isNothing G [.ref (xa σ 0), .int x1] (WM G σ) (eqp (some (.int 1)) (WM G (xa σ, q2))) := by
  refine Ct.of (by decide +kernel) (Nat.le_of_ble_eq_true rfl) (fun K X => ?_)
  show Lb K G _ _ 2 0 [(0, .ref (xa σ 0)), (1, .int x1)] [] _ 0 0
  refine b_aload_n X d_M_isNothing_0 0 rfl rfl ?_
  refine b_iload_n X d_M_isNothing_1 1 rfl rfl ?_
  refine b_dV X cf_M_look ci_M_look ml_M_192 t2 0 rfl rfl (As := [.int x1]) (rest := []) rfl (Nat.le_of_ble_eq_true rfl) ⟨Nat.le_of_ble_eq_true rfl, Nat.le_of_ble_eq_true rfl⟩ ⟨Nat.le_of_ble_eq_true rfl, Nat.le_of_ble_eq_true rfl⟩ rfl rfl d_M_isNothing_2 ?_
  refine b_aload_n X d_M_isNothing_5 0 rfl rfl ?_
  refine b_get X fl_M_73 0 rfl (v := .int (xi (xa σ, q2) 0 0)) rfl d_M_isNothing_6 ?_
  refine b_if_ne X (tgt := 25) d_M_isNothing_9 (by decide) (fun h => absurd c9 h) (fun _ => ?_)
  refine b_aload_n X d_M_isNothing_12 0 rfl rfl ?_
  refine b_get X fl_M_19 0 rfl (v := .ref (xa σ 4)) rfl d_M_isNothing_13 ?_
  refine b_iload_n X d_M_isNothing_16 1 rfl rfl ?_
  refine b_zald X 4 rfl (by decide) n17 e17 h17 d_M_isNothing_17 ?_
  refine b_if_eq X (tgt := 25) d_M_isNothing_18 (by decide) (fun h => absurd h c18) (fun _ => ?_)
  refine b_iconst X (v := 1) d_M_isNothing_21 (by decide) ?_
  refine b_goto X (tgt := 26) d_M_isNothing_22 (by decide) ?_
  exact b_zret X rfl d_M_isNothing_26 ⟨rfl, rfl⟩
theorem ct_M_first_t (G : GG) (σ : St) (x1 : Int32) (q2 : Sq) (n21 : Nat) (t2 : Ct y_M_look c_M_look 2 none rm_M_look G [.ref (xa σ 0), .int x1] (WM G σ) (eqp (none) (WM G (xa σ, q2)))) (c9 : (xi (xa σ, q2) 0 0) ≤ 0) (e21 : x1 = nI n21) (h21 : n21 < 16) : Ct y_M_first c_M_first 2 (some .long) rm_M_first G [.ref (xa σ 0), .int x1] (WM G σ) (eqp (some (.long (xl (xa σ, q2) 14 n21))) (WM G (xa σ, q2))) := by
  refine Ct.of (by decide +kernel) (Nat.le_of_ble_eq_true rfl) (fun K X => ?_)
  show Lb K G _ _ 2 0 [(0, .ref (xa σ 0)), (1, .int x1)] [] _ 0 0
  refine b_aload_n X d_M_first_0 0 rfl rfl ?_
  refine b_iload_n X d_M_first_1 1 rfl rfl ?_
  refine b_dV X cf_M_look ci_M_look ml_M_192 t2 0 rfl rfl (As := [.int x1]) (rest := []) rfl (Nat.le_of_ble_eq_true rfl) ⟨Nat.le_of_ble_eq_true rfl, Nat.le_of_ble_eq_true rfl⟩ ⟨Nat.le_of_ble_eq_true rfl, Nat.le_of_ble_eq_true rfl⟩ rfl rfl d_M_first_2 ?_
  refine b_aload_n X d_M_first_5 0 rfl rfl ?_
  refine b_get X fl_M_73 0 rfl (v := .int (xi (xa σ, q2) 0 0)) rfl d_M_first_6 ?_
  refine b_if_le X (tgt := 16) d_M_first_9 (by decide) (fun _ => ?_) (fun h => absurd c9 h)
  refine b_aload_n X d_M_first_16 0 rfl rfl ?_
  refine b_get X fl_M_52 0 rfl (v := .ref (xa σ 14)) rfl d_M_first_17 ?_
  refine b_iload_n X d_M_first_20 1 rfl rfl ?_
  refine b_lald X 14 rfl (by decide) n21 e21 h21 d_M_first_21 ?_
  exact b_lret X d_M_first_22 ⟨rfl, rfl⟩
theorem ct_M_first_f (G : GG) (σ : St) (x1 : Int32) (q2 : Sq) (t2 : Ct y_M_look c_M_look 2 none rm_M_look G [.ref (xa σ 0), .int x1] (WM G σ) (eqp (none) (WM G (xa σ, q2)))) (c9 : ¬ (xi (xa σ, q2) 0 0) ≤ 0) : Ct y_M_first c_M_first 2 (some .long) rm_M_first G [.ref (xa σ 0), .int x1] (WM G σ) (eqp (some (.long 0)) (WM G (xa σ, q2))) := by
  refine Ct.of (by decide +kernel) (Nat.le_of_ble_eq_true rfl) (fun K X => ?_)
  show Lb K G _ _ 2 0 [(0, .ref (xa σ 0)), (1, .int x1)] [] _ 0 0
  refine b_aload_n X d_M_first_0 0 rfl rfl ?_
  refine b_iload_n X d_M_first_1 1 rfl rfl ?_
  refine b_dV X cf_M_look ci_M_look ml_M_192 t2 0 rfl rfl (As := [.int x1]) (rest := []) rfl (Nat.le_of_ble_eq_true rfl) ⟨Nat.le_of_ble_eq_true rfl, Nat.le_of_ble_eq_true rfl⟩ ⟨Nat.le_of_ble_eq_true rfl, Nat.le_of_ble_eq_true rfl⟩ rfl rfl d_M_first_2 ?_
  refine b_aload_n X d_M_first_5 0 rfl rfl ?_
  refine b_get X fl_M_73 0 rfl (v := .int (xi (xa σ, q2) 0 0)) rfl d_M_first_6 ?_
  refine b_if_le X (tgt := 16) d_M_first_9 (by decide) (fun h => absurd h c9) (fun _ => ?_)
  refine b_lconst X (v := 0) d_M_first_12 rfl ?_
  refine b_goto X (tgt := 22) d_M_first_13 (by decide) ?_
  exact b_lret X d_M_first_22 ⟨rfl, rfl⟩
theorem ct_M_following_t (G : GG) (σ : St) (x1 : Int32) (q2 : Sq) (n21 : Nat) (t2 : Ct y_M_look c_M_look 2 none rm_M_look G [.ref (xa σ 0), .int x1] (WM G σ) (eqp (none) (WM G (xa σ, q2)))) (c9 : (xi (xa σ, q2) 0 0) ≤ 0) (e21 : x1 = nI n21) (h21 : n21 < 16) : Ct y_M_following c_M_following 2 (some .long) rm_M_following G [.ref (xa σ 0), .int x1] (WM G σ) (eqp (some (.long (xl (xa σ, q2) 15 n21))) (WM G (xa σ, q2))) := by
  refine Ct.of (by decide +kernel) (Nat.le_of_ble_eq_true rfl) (fun K X => ?_)
  show Lb K G _ _ 2 0 [(0, .ref (xa σ 0)), (1, .int x1)] [] _ 0 0
  refine b_aload_n X d_M_following_0 0 rfl rfl ?_
  refine b_iload_n X d_M_following_1 1 rfl rfl ?_
  refine b_dV X cf_M_look ci_M_look ml_M_192 t2 0 rfl rfl (As := [.int x1]) (rest := []) rfl (Nat.le_of_ble_eq_true rfl) ⟨Nat.le_of_ble_eq_true rfl, Nat.le_of_ble_eq_true rfl⟩ ⟨Nat.le_of_ble_eq_true rfl, Nat.le_of_ble_eq_true rfl⟩ rfl rfl d_M_following_2 ?_
  refine b_aload_n X d_M_following_5 0 rfl rfl ?_
  refine b_get X fl_M_73 0 rfl (v := .int (xi (xa σ, q2) 0 0)) rfl d_M_following_6 ?_
  refine b_if_le X (tgt := 16) d_M_following_9 (by decide) (fun _ => ?_) (fun h => absurd c9 h)
  refine b_aload_n X d_M_following_16 0 rfl rfl ?_
  refine b_get X fl_M_55 0 rfl (v := .ref (xa σ 15)) rfl d_M_following_17 ?_
  refine b_iload_n X d_M_following_20 1 rfl rfl ?_
  refine b_lald X 15 rfl (by decide) n21 e21 h21 d_M_following_21 ?_
  exact b_lret X d_M_following_22 ⟨rfl, rfl⟩
theorem ct_M_following_f (G : GG) (σ : St) (x1 : Int32) (q2 : Sq) (t2 : Ct y_M_look c_M_look 2 none rm_M_look G [.ref (xa σ 0), .int x1] (WM G σ) (eqp (none) (WM G (xa σ, q2)))) (c9 : ¬ (xi (xa σ, q2) 0 0) ≤ 0) : Ct y_M_following c_M_following 2 (some .long) rm_M_following G [.ref (xa σ 0), .int x1] (WM G σ) (eqp (some (.long 0)) (WM G (xa σ, q2))) := by
  refine Ct.of (by decide +kernel) (Nat.le_of_ble_eq_true rfl) (fun K X => ?_)
  show Lb K G _ _ 2 0 [(0, .ref (xa σ 0)), (1, .int x1)] [] _ 0 0
  refine b_aload_n X d_M_following_0 0 rfl rfl ?_
  refine b_iload_n X d_M_following_1 1 rfl rfl ?_
  refine b_dV X cf_M_look ci_M_look ml_M_192 t2 0 rfl rfl (As := [.int x1]) (rest := []) rfl (Nat.le_of_ble_eq_true rfl) ⟨Nat.le_of_ble_eq_true rfl, Nat.le_of_ble_eq_true rfl⟩ ⟨Nat.le_of_ble_eq_true rfl, Nat.le_of_ble_eq_true rfl⟩ rfl rfl d_M_following_2 ?_
  refine b_aload_n X d_M_following_5 0 rfl rfl ?_
  refine b_get X fl_M_73 0 rfl (v := .int (xi (xa σ, q2) 0 0)) rfl d_M_following_6 ?_
  refine b_if_le X (tgt := 16) d_M_following_9 (by decide) (fun h => absurd h c9) (fun _ => ?_)
  refine b_lconst X (v := 0) d_M_following_12 rfl ?_
  refine b_goto X (tgt := 22) d_M_following_13 (by decide) ?_
  exact b_lret X d_M_following_22 ⟨rfl, rfl⟩
theorem sg_M_lets_0_ttr {K : KX} {G : GG} {w0 : va_W} {post : PostT} (X : Bd K G w0 "FirstTreesModel" c_M_lets 6 (some .int) rm_M_lets) (σ : St) (x1 : Int32) (x2 : Int32) (q2 : Sq) (t2 : Ct y_M_look c_M_look 2 none rm_M_look G [.ref (xa σ 0), .int x1] (WM G σ) (eqp (none) (WM G (xa σ, q2)))) (c10 : (xi (xa σ, q2) 0 0) ≤ 0) (c21 : x2 < 0) (hp : post (some (.int 0)) (WM G (wi (xa σ, q2) 0 0 3))) : Lb K G w0 (Qe K G w0 post rm_M_lets) 6 0 [(0, .ref (xa σ 0)), (1, .int x1), (2, .int x2)] [] (WM G σ) 0 0 := by
  refine b_aload_n X d_M_lets_0 0 rfl rfl ?_
  refine b_iload_n X d_M_lets_1 1 rfl rfl ?_
  refine b_dV X cf_M_look ci_M_look ml_M_192 t2 0 rfl rfl (As := [.int x1]) (rest := []) rfl (Nat.le_of_ble_eq_true rfl) ⟨Nat.le_of_ble_eq_true rfl, Nat.le_of_ble_eq_true rfl⟩ ⟨Nat.le_of_ble_eq_true rfl, Nat.le_of_ble_eq_true rfl⟩ rfl rfl d_M_lets_2 ?_
  refine b_aload_n X d_M_lets_5 0 rfl rfl ?_
  refine b_aload_n X d_M_lets_6 0 rfl rfl ?_
  refine b_get X fl_M_73 0 rfl (v := .int (xi (xa σ, q2) 0 0)) rfl d_M_lets_7 ?_
  refine b_if_le X (tgt := 20) d_M_lets_10 (by decide) (fun _ => ?_) (fun h => absurd c10 h)
  refine b_iload_n X d_M_lets_20 2 rfl rfl ?_
  refine b_if_lt X (tgt := 30) d_M_lets_21 (by decide) (fun _ => ?_) (fun h => absurd c21 h)
  refine b_iconst X (v := 3) d_M_lets_30 (by decide) ?_
  refine b_goto X (tgt := 35) d_M_lets_31 (by decide) ?_
  refine b_put X fl_M_73 pl_M_thrown 0 rfl rfl rfl (Nat.le_of_ble_eq_true rfl) (uWM_0_thrown G (xa σ, q2) 3) d_M_lets_35 ?_
  refine b_aload_n X d_M_lets_38 0 rfl rfl ?_
  refine b_get X fl_M_73 0 rfl (v := .int 3) rfl d_M_lets_39 ?_
  refine b_if_le X (tgt := 47) d_M_lets_42 (by decide) (fun h => absurd h (by decide)) (fun _ => ?_)
  refine b_iconst X (v := 0) d_M_lets_45 (by decide) ?_
  exact b_iret X d_M_lets_46 hp
theorem sg_M_lets_0_tft52 {K : KX} {G : GG} {w0 : va_W} {Q : State → Prop} (X : Bd K G w0 "FirstTreesModel" c_M_lets 6 (some .int) rm_M_lets) (σ : St) (x1 : Int32) (x2 : Int32) (q2 : Sq) (t2 : Ct y_M_look c_M_look 2 none rm_M_look G [.ref (xa σ 0), .int x1] (WM G σ) (eqp (none) (WM G (xa σ, q2)))) (c10 : (xi (xa σ, q2) 0 0) ≤ 0) (c21 : ¬ x2 < 0) (c27 : x2 ≤ 32) (k : Lb K G w0 Q 6 52 [(0, .ref (xa σ 0)), (1, .int x1), (2, .int x2), (3, .int 0), (4, .int 0)] [] (WM G (wi (xa σ, q2) 0 0 0)) 0 0) : Lb K G w0 Q 6 0 [(0, .ref (xa σ 0)), (1, .int x1), (2, .int x2)] [] (WM G σ) 0 0 := by
  refine b_aload_n X d_M_lets_0 0 rfl rfl ?_
  refine b_iload_n X d_M_lets_1 1 rfl rfl ?_
  refine b_dV X cf_M_look ci_M_look ml_M_192 t2 0 rfl rfl (As := [.int x1]) (rest := []) rfl (Nat.le_of_ble_eq_true rfl) ⟨Nat.le_of_ble_eq_true rfl, Nat.le_of_ble_eq_true rfl⟩ ⟨Nat.le_of_ble_eq_true rfl, Nat.le_of_ble_eq_true rfl⟩ rfl rfl d_M_lets_2 ?_
  refine b_aload_n X d_M_lets_5 0 rfl rfl ?_
  refine b_aload_n X d_M_lets_6 0 rfl rfl ?_
  refine b_get X fl_M_73 0 rfl (v := .int (xi (xa σ, q2) 0 0)) rfl d_M_lets_7 ?_
  refine b_if_le X (tgt := 20) d_M_lets_10 (by decide) (fun _ => ?_) (fun h => absurd c10 h)
  refine b_iload_n X d_M_lets_20 2 rfl rfl ?_
  refine b_if_lt X (tgt := 30) d_M_lets_21 (by decide) (fun h => absurd h c21) (fun _ => ?_)
  refine b_iload_n X d_M_lets_24 2 rfl rfl ?_
  refine b_bipush X (v := 32) d_M_lets_25 (by decide) ?_
  refine b_icmp_le X (tgt := 34) d_M_lets_27 (by decide) (fun _ => ?_) (fun h => absurd c27 h)
  refine b_iconst X (v := 0) d_M_lets_34 (by decide) ?_
  refine b_put X fl_M_73 pl_M_thrown 0 rfl rfl rfl (Nat.le_of_ble_eq_true rfl) (uWM_0_thrown G (xa σ, q2) 0) d_M_lets_35 ?_
  refine b_aload_n X d_M_lets_38 0 rfl rfl ?_
  refine b_get X fl_M_73 0 rfl (v := .int 0) rfl d_M_lets_39 ?_
  refine b_if_le X (tgt := 47) d_M_lets_42 (by decide) (fun _ => ?_) (fun h => absurd h (by decide))
  refine b_iconst X (v := 0) d_M_lets_47 (by decide) ?_
  refine b_istore_n X (lv' := [(0, .ref (xa σ 0)), (1, .int x1), (2, .int x2), (3, .int 0)]) d_M_lets_48 rfl (by decide) [1, 2, 3, 0] rfl ?_
  refine b_iconst X (v := 0) d_M_lets_49 (by decide) ?_
  refine b_istore X (lv' := [(0, .ref (xa σ 0)), (1, .int x1), (2, .int x2), (3, .int 0), (4, .int 0)]) d_M_lets_50 (by decide) [1, 2, 3, 4, 0] rfl ?_
  exact k
theorem sg_M_lets_0_tffr {K : KX} {G : GG} {w0 : va_W} {post : PostT} (X : Bd K G w0 "FirstTreesModel" c_M_lets 6 (some .int) rm_M_lets) (σ : St) (x1 : Int32) (x2 : Int32) (q2 : Sq) (t2 : Ct y_M_look c_M_look 2 none rm_M_look G [.ref (xa σ 0), .int x1] (WM G σ) (eqp (none) (WM G (xa σ, q2)))) (c10 : (xi (xa σ, q2) 0 0) ≤ 0) (c21 : ¬ x2 < 0) (c27 : ¬ x2 ≤ 32) (hp : post (some (.int 0)) (WM G (wi (xa σ, q2) 0 0 3))) : Lb K G w0 (Qe K G w0 post rm_M_lets) 6 0 [(0, .ref (xa σ 0)), (1, .int x1), (2, .int x2)] [] (WM G σ) 0 0 := by
  refine b_aload_n X d_M_lets_0 0 rfl rfl ?_
  refine b_iload_n X d_M_lets_1 1 rfl rfl ?_
  refine b_dV X cf_M_look ci_M_look ml_M_192 t2 0 rfl rfl (As := [.int x1]) (rest := []) rfl (Nat.le_of_ble_eq_true rfl) ⟨Nat.le_of_ble_eq_true rfl, Nat.le_of_ble_eq_true rfl⟩ ⟨Nat.le_of_ble_eq_true rfl, Nat.le_of_ble_eq_true rfl⟩ rfl rfl d_M_lets_2 ?_
  refine b_aload_n X d_M_lets_5 0 rfl rfl ?_
  refine b_aload_n X d_M_lets_6 0 rfl rfl ?_
  refine b_get X fl_M_73 0 rfl (v := .int (xi (xa σ, q2) 0 0)) rfl d_M_lets_7 ?_
  refine b_if_le X (tgt := 20) d_M_lets_10 (by decide) (fun _ => ?_) (fun h => absurd c10 h)
  refine b_iload_n X d_M_lets_20 2 rfl rfl ?_
  refine b_if_lt X (tgt := 30) d_M_lets_21 (by decide) (fun h => absurd h c21) (fun _ => ?_)
  refine b_iload_n X d_M_lets_24 2 rfl rfl ?_
  refine b_bipush X (v := 32) d_M_lets_25 (by decide) ?_
  refine b_icmp_le X (tgt := 34) d_M_lets_27 (by decide) (fun h => absurd h c27) (fun _ => ?_)
  refine b_iconst X (v := 3) d_M_lets_30 (by decide) ?_
  refine b_goto X (tgt := 35) d_M_lets_31 (by decide) ?_
  refine b_put X fl_M_73 pl_M_thrown 0 rfl rfl rfl (Nat.le_of_ble_eq_true rfl) (uWM_0_thrown G (xa σ, q2) 3) d_M_lets_35 ?_
  refine b_aload_n X d_M_lets_38 0 rfl rfl ?_
  refine b_get X fl_M_73 0 rfl (v := .int 3) rfl d_M_lets_39 ?_
  refine b_if_le X (tgt := 47) d_M_lets_42 (by decide) (fun h => absurd h (by decide)) (fun _ => ?_)
  refine b_iconst X (v := 0) d_M_lets_45 (by decide) ?_
  exact b_iret X d_M_lets_46 hp
theorem sg_M_lets_0_ft52 {K : KX} {G : GG} {w0 : va_W} {Q : State → Prop} (X : Bd K G w0 "FirstTreesModel" c_M_lets 6 (some .int) rm_M_lets) (σ : St) (x1 : Int32) (x2 : Int32) (q2 : Sq) (t2 : Ct y_M_look c_M_look 2 none rm_M_look G [.ref (xa σ 0), .int x1] (WM G σ) (eqp (none) (WM G (xa σ, q2)))) (c10 : ¬ (xi (xa σ, q2) 0 0) ≤ 0) (c42 : (xi (xa σ, q2) 0 0) ≤ 0) (k : Lb K G w0 Q 6 52 [(0, .ref (xa σ 0)), (1, .int x1), (2, .int x2), (3, .int 0), (4, .int 0)] [] (WM G (wi (xa σ, q2) 0 0 (xi (xa σ, q2) 0 0))) 0 0) : Lb K G w0 Q 6 0 [(0, .ref (xa σ 0)), (1, .int x1), (2, .int x2)] [] (WM G σ) 0 0 := by
  refine b_aload_n X d_M_lets_0 0 rfl rfl ?_
  refine b_iload_n X d_M_lets_1 1 rfl rfl ?_
  refine b_dV X cf_M_look ci_M_look ml_M_192 t2 0 rfl rfl (As := [.int x1]) (rest := []) rfl (Nat.le_of_ble_eq_true rfl) ⟨Nat.le_of_ble_eq_true rfl, Nat.le_of_ble_eq_true rfl⟩ ⟨Nat.le_of_ble_eq_true rfl, Nat.le_of_ble_eq_true rfl⟩ rfl rfl d_M_lets_2 ?_
  refine b_aload_n X d_M_lets_5 0 rfl rfl ?_
  refine b_aload_n X d_M_lets_6 0 rfl rfl ?_
  refine b_get X fl_M_73 0 rfl (v := .int (xi (xa σ, q2) 0 0)) rfl d_M_lets_7 ?_
  refine b_if_le X (tgt := 20) d_M_lets_10 (by decide) (fun h => absurd h c10) (fun _ => ?_)
  refine b_aload_n X d_M_lets_13 0 rfl rfl ?_
  refine b_get X fl_M_73 0 rfl (v := .int (xi (xa σ, q2) 0 0)) rfl d_M_lets_14 ?_
  refine b_goto X (tgt := 35) d_M_lets_17 (by decide) ?_
  refine b_put X fl_M_73 pl_M_thrown 0 rfl rfl rfl (Nat.le_of_ble_eq_true rfl) (uWM_0_thrown G (xa σ, q2) (xi (xa σ, q2) 0 0)) d_M_lets_35 ?_
  refine b_aload_n X d_M_lets_38 0 rfl rfl ?_
  refine b_get X fl_M_73 0 rfl (v := .int (xi (xa σ, q2) 0 0)) rfl d_M_lets_39 ?_
  refine b_if_le X (tgt := 47) d_M_lets_42 (by decide) (fun _ => ?_) (fun h => absurd c42 h)
  refine b_iconst X (v := 0) d_M_lets_47 (by decide) ?_
  refine b_istore_n X (lv' := [(0, .ref (xa σ 0)), (1, .int x1), (2, .int x2), (3, .int 0)]) d_M_lets_48 rfl (by decide) [1, 2, 3, 0] rfl ?_
  refine b_iconst X (v := 0) d_M_lets_49 (by decide) ?_
  refine b_istore X (lv' := [(0, .ref (xa σ 0)), (1, .int x1), (2, .int x2), (3, .int 0), (4, .int 0)]) d_M_lets_50 (by decide) [1, 2, 3, 4, 0] rfl ?_
  exact k
theorem sg_M_lets_0_ffr {K : KX} {G : GG} {w0 : va_W} {post : PostT} (X : Bd K G w0 "FirstTreesModel" c_M_lets 6 (some .int) rm_M_lets) (σ : St) (x1 : Int32) (x2 : Int32) (q2 : Sq) (t2 : Ct y_M_look c_M_look 2 none rm_M_look G [.ref (xa σ 0), .int x1] (WM G σ) (eqp (none) (WM G (xa σ, q2)))) (c10 : ¬ (xi (xa σ, q2) 0 0) ≤ 0) (c42 : ¬ (xi (xa σ, q2) 0 0) ≤ 0) (hp : post (some (.int 0)) (WM G (wi (xa σ, q2) 0 0 (xi (xa σ, q2) 0 0)))) : Lb K G w0 (Qe K G w0 post rm_M_lets) 6 0 [(0, .ref (xa σ 0)), (1, .int x1), (2, .int x2)] [] (WM G σ) 0 0 := by
  refine b_aload_n X d_M_lets_0 0 rfl rfl ?_
  refine b_iload_n X d_M_lets_1 1 rfl rfl ?_
  refine b_dV X cf_M_look ci_M_look ml_M_192 t2 0 rfl rfl (As := [.int x1]) (rest := []) rfl (Nat.le_of_ble_eq_true rfl) ⟨Nat.le_of_ble_eq_true rfl, Nat.le_of_ble_eq_true rfl⟩ ⟨Nat.le_of_ble_eq_true rfl, Nat.le_of_ble_eq_true rfl⟩ rfl rfl d_M_lets_2 ?_
  refine b_aload_n X d_M_lets_5 0 rfl rfl ?_
  refine b_aload_n X d_M_lets_6 0 rfl rfl ?_
  refine b_get X fl_M_73 0 rfl (v := .int (xi (xa σ, q2) 0 0)) rfl d_M_lets_7 ?_
  refine b_if_le X (tgt := 20) d_M_lets_10 (by decide) (fun h => absurd h c10) (fun _ => ?_)
  refine b_aload_n X d_M_lets_13 0 rfl rfl ?_
  refine b_get X fl_M_73 0 rfl (v := .int (xi (xa σ, q2) 0 0)) rfl d_M_lets_14 ?_
  refine b_goto X (tgt := 35) d_M_lets_17 (by decide) ?_
  refine b_put X fl_M_73 pl_M_thrown 0 rfl rfl rfl (Nat.le_of_ble_eq_true rfl) (uWM_0_thrown G (xa σ, q2) (xi (xa σ, q2) 0 0)) d_M_lets_35 ?_
  refine b_aload_n X d_M_lets_38 0 rfl rfl ?_
  refine b_get X fl_M_73 0 rfl (v := .int (xi (xa σ, q2) 0 0)) rfl d_M_lets_39 ?_
  refine b_if_le X (tgt := 47) d_M_lets_42 (by decide) (fun h => absurd h c42) (fun _ => ?_)
  refine b_iconst X (v := 0) d_M_lets_45 (by decide) ?_
  exact b_iret X d_M_lets_46 hp
theorem sg_M_lets_52_tr {K : KX} {G : GG} {w0 : va_W} {post : PostT} (X : Bd K G w0 "FirstTreesModel" c_M_lets 6 (some .int) rm_M_lets) (σ : St) (x1 : Int32) (x2 : Int32) (x3 : Int32) (x4 : Int32) (n59 : Nat) (e59 : x1 = nI n59) (h59 : n59 < 16) (c60 : (xi σ 1 n59) ≤ x4) (hp : post (some (.int x3)) (WM G σ)) : Lb K G w0 (Qe K G w0 post rm_M_lets) 6 52 [(0, .ref (xa σ 0)), (1, .int x1), (2, .int x2), (3, .int x3), (4, .int x4)] [] (WM G σ) 0 0 := by
  refine b_iload X d_M_lets_52 4 rfl ?_
  refine b_aload_n X d_M_lets_54 0 rfl rfl ?_
  refine b_get X fl_M_7 0 rfl (v := .ref (xa σ 1)) rfl d_M_lets_55 ?_
  refine b_iload_n X d_M_lets_58 1 rfl rfl ?_
  refine b_iald X 1 rfl (by decide) n59 e59 h59 d_M_lets_59 ?_
  refine b_icmp_ge X (tgt := 135) d_M_lets_60 (by decide) (fun _ => ?_) (fun h => absurd c60 h)
  refine b_iload_n X d_M_lets_135 3 rfl rfl ?_
  exact b_iret X d_M_lets_136 hp
theorem sg_M_lets_52_ft52 {K : KX} {G : GG} {w0 : va_W} {Q : State → Prop} (X : Bd K G w0 "FirstTreesModel" c_M_lets 6 (some .int) rm_M_lets) (σ : St) (x1 : Int32) (x2 : Int32) (x3 : Int32) (x4 : Int32) (n59 : Nat) (r68 : Int64) (e59 : x1 = nI n59) (h59 : n59 < 16) (c60 : ¬ (xi σ 1 n59) ≤ x4) (t68 : Ct y_M_firstOf c_M_firstOf 9 (some .long) rm_M_firstOf G [.ref (xa σ 0), .int x1, .int x4, .int 0] (WM G σ) (eqp (some (.long r68)) (WM G σ))) (c76 : ((shrL r68 x2) &&& 1) = 1) (k : Lb K G w0 Q 6 52 [(0, .ref (xa σ 0)), (1, .int x1), (2, .int x2), (3, .int (x3 ||| (1 <<< (x4 &&& 31)))), (4, .int (x4 + 1))] [] (WM G σ) 0 0) : Lb K G w0 Q 6 52 [(0, .ref (xa σ 0)), (1, .int x1), (2, .int x2), (3, .int x3), (4, .int x4)] [] (WM G σ) 0 0 := by
  refine b_iload X d_M_lets_52 4 rfl ?_
  refine b_aload_n X d_M_lets_54 0 rfl rfl ?_
  refine b_get X fl_M_7 0 rfl (v := .ref (xa σ 1)) rfl d_M_lets_55 ?_
  refine b_iload_n X d_M_lets_58 1 rfl rfl ?_
  refine b_iald X 1 rfl (by decide) n59 e59 h59 d_M_lets_59 ?_
  refine b_icmp_ge X (tgt := 135) d_M_lets_60 (by decide) (fun h => absurd h c60) (fun _ => ?_)
  refine b_aload_n X d_M_lets_63 0 rfl rfl ?_
  refine b_iload_n X d_M_lets_64 1 rfl rfl ?_
  refine b_iload X d_M_lets_65 4 rfl ?_
  refine b_iconst X (v := 0) d_M_lets_67 (by decide) ?_
  refine b_dV X cf_M_firstOf ci_M_firstOf ml_M_181 t68 0 rfl rfl (As := [.int x1, .int x4, .int 0]) (rest := []) rfl (Nat.le_of_ble_eq_true rfl) ⟨Nat.le_of_ble_eq_true rfl, Nat.le_of_ble_eq_true rfl⟩ ⟨Nat.le_of_ble_eq_true rfl, Nat.le_of_ble_eq_true rfl⟩ rfl rfl d_M_lets_68 ?_
  refine b_iload_n X d_M_lets_71 2 rfl rfl ?_
  refine b_lshr X (v := (shrL r68 x2)) d_M_lets_72 rfl ?_
  refine b_lconst X (v := 1) d_M_lets_73 rfl ?_
  refine b_land X d_M_lets_74 ?_
  refine b_lconst X (v := 1) d_M_lets_75 rfl ?_
  refine b_l_eq X (tgt := 106) d_M_lets_76 d_M_lets_77 (by decide) (fun _ => ?_) (fun h => absurd c76 h)
  refine b_iconst X (v := 1) d_M_lets_106 (by decide) ?_
  refine b_goto X (tgt := 111) d_M_lets_107 (by decide) ?_
  refine b_istore X (lv' := [(0, .ref (xa σ 0)), (1, .int x1), (2, .int x2), (3, .int x3), (4, .int x4), (5, .int 1)]) d_M_lets_111 (by decide) [1, 2, 3, 4, 5, 0] rfl ?_
  refine b_iload X d_M_lets_113 5 rfl ?_
  refine b_if_eq X (tgt := 127) d_M_lets_115 (by decide) (fun h => absurd h (by decide)) (fun _ => ?_)
  refine b_iload_n X d_M_lets_118 3 rfl rfl ?_
  refine b_iconst X (v := 1) d_M_lets_119 (by decide) ?_
  refine b_iload X d_M_lets_120 4 rfl ?_
  refine b_ishl X d_M_lets_122 ?_
  refine b_ior X d_M_lets_123 ?_
  refine b_goto X (tgt := 128) d_M_lets_124 (by decide) ?_
  refine b_istore_n X (lv' := [(0, .ref (xa σ 0)), (1, .int x1), (2, .int x2), (3, .int (x3 ||| (1 <<< (x4 &&& 31)))), (4, .int x4), (5, .int 1)]) d_M_lets_128 rfl (by decide) [1, 2, 3, 0, 4, 5] rfl ?_
  refine b_iinc X (lv' := [(0, .ref (xa σ 0)), (1, .int x1), (2, .int x2), (3, .int (x3 ||| (1 <<< (x4 &&& 31)))), (4, .int (x4 + 1)), (5, .int 1)]) d_M_lets_129 4 rfl (v := (x4 + 1)) rfl (by decide) [1, 2, 3, 4, 0, 5] rfl ?_
  refine b_goto X (tgt := 52) d_M_lets_132 (by decide) ?_
  refine Lb.pick (lv' := [(0, .ref (xa σ 0)), (1, .int x1), (2, .int x2), (3, .int (x3 ||| (1 <<< (x4 &&& 31)))), (4, .int (x4 + 1))]) [0, 1, 2, 3, 4] rfl ?_
  exact k
theorem sg_M_lets_52_fft52 {K : KX} {G : GG} {w0 : va_W} {Q : State → Prop} (X : Bd K G w0 "FirstTreesModel" c_M_lets 6 (some .int) rm_M_lets) (σ : St) (x1 : Int32) (x2 : Int32) (x3 : Int32) (x4 : Int32) (n59 : Nat) (r68 : Int64) (r85 : Int32) (e59 : x1 = nI n59) (h59 : n59 < 16) (c60 : ¬ (xi σ 1 n59) ≤ x4) (t68 : Ct y_M_firstOf c_M_firstOf 9 (some .long) rm_M_firstOf G [.ref (xa σ 0), .int x1, .int x4, .int 0] (WM G σ) (eqp (some (.long r68)) (WM G σ))) (c76 : ¬ ((shrL r68 x2) &&& 1) = 1) (t85 : Ct y_M_rowIsNothing c_M_rowIsNothing 7 (some .boolean) rm_M_rowIsNothing G [.ref (xa σ 0), .int x1, .int x4, .int 0] (WM G σ) (eqp (some (.int r85)) (WM G σ))) (c88 : r85 = 0) (k : Lb K G w0 Q 6 52 [(0, .ref (xa σ 0)), (1, .int x1), (2, .int x2), (3, .int x3), (4, .int (x4 + 1))] [] (WM G σ) 0 0) : Lb K G w0 Q 6 52 [(0, .ref (xa σ 0)), (1, .int x1), (2, .int x2), (3, .int x3), (4, .int x4)] [] (WM G σ) 0 0 := by
  refine b_iload X d_M_lets_52 4 rfl ?_
  refine b_aload_n X d_M_lets_54 0 rfl rfl ?_
  refine b_get X fl_M_7 0 rfl (v := .ref (xa σ 1)) rfl d_M_lets_55 ?_
  refine b_iload_n X d_M_lets_58 1 rfl rfl ?_
  refine b_iald X 1 rfl (by decide) n59 e59 h59 d_M_lets_59 ?_
  refine b_icmp_ge X (tgt := 135) d_M_lets_60 (by decide) (fun h => absurd h c60) (fun _ => ?_)
  refine b_aload_n X d_M_lets_63 0 rfl rfl ?_
  refine b_iload_n X d_M_lets_64 1 rfl rfl ?_
  refine b_iload X d_M_lets_65 4 rfl ?_
  refine b_iconst X (v := 0) d_M_lets_67 (by decide) ?_
  refine b_dV X cf_M_firstOf ci_M_firstOf ml_M_181 t68 0 rfl rfl (As := [.int x1, .int x4, .int 0]) (rest := []) rfl (Nat.le_of_ble_eq_true rfl) ⟨Nat.le_of_ble_eq_true rfl, Nat.le_of_ble_eq_true rfl⟩ ⟨Nat.le_of_ble_eq_true rfl, Nat.le_of_ble_eq_true rfl⟩ rfl rfl d_M_lets_68 ?_
  refine b_iload_n X d_M_lets_71 2 rfl rfl ?_
  refine b_lshr X (v := (shrL r68 x2)) d_M_lets_72 rfl ?_
  refine b_lconst X (v := 1) d_M_lets_73 rfl ?_
  refine b_land X d_M_lets_74 ?_
  refine b_lconst X (v := 1) d_M_lets_75 rfl ?_
  refine b_l_eq X (tgt := 106) d_M_lets_76 d_M_lets_77 (by decide) (fun h => absurd h c76) (fun _ => ?_)
  refine b_aload_n X d_M_lets_80 0 rfl rfl ?_
  refine b_iload_n X d_M_lets_81 1 rfl rfl ?_
  refine b_iload X d_M_lets_82 4 rfl ?_
  refine b_iconst X (v := 0) d_M_lets_84 (by decide) ?_
  refine b_dV X cf_M_rowIsNothing ci_M_rowIsNothing ml_M_92 t85 0 rfl rfl (As := [.int x1, .int x4, .int 0]) (rest := []) rfl (Nat.le_of_ble_eq_true rfl) ⟨Nat.le_of_ble_eq_true rfl, Nat.le_of_ble_eq_true rfl⟩ ⟨Nat.le_of_ble_eq_true rfl, Nat.le_of_ble_eq_true rfl⟩ rfl rfl d_M_lets_85 ?_
  refine b_if_eq X (tgt := 110) d_M_lets_88 (by decide) (fun _ => ?_) (fun h => absurd c88 h)
  refine b_iconst X (v := 0) d_M_lets_110 (by decide) ?_
  refine b_istore X (lv' := [(0, .ref (xa σ 0)), (1, .int x1), (2, .int x2), (3, .int x3), (4, .int x4), (5, .int 0)]) d_M_lets_111 (by decide) [1, 2, 3, 4, 5, 0] rfl ?_
  refine b_iload X d_M_lets_113 5 rfl ?_
  refine b_if_eq X (tgt := 127) d_M_lets_115 (by decide) (fun _ => ?_) (fun h => absurd h (by decide))
  refine b_iload_n X d_M_lets_127 3 rfl rfl ?_
  refine b_istore_n X (lv' := [(0, .ref (xa σ 0)), (1, .int x1), (2, .int x2), (3, .int x3), (4, .int x4), (5, .int 0)]) d_M_lets_128 rfl (by decide) [1, 2, 3, 0, 4, 5] rfl ?_
  refine b_iinc X (lv' := [(0, .ref (xa σ 0)), (1, .int x1), (2, .int x2), (3, .int x3), (4, .int (x4 + 1)), (5, .int 0)]) d_M_lets_129 4 rfl (v := (x4 + 1)) rfl (by decide) [1, 2, 3, 4, 0, 5] rfl ?_
  refine b_goto X (tgt := 52) d_M_lets_132 (by decide) ?_
  refine Lb.pick (lv' := [(0, .ref (xa σ 0)), (1, .int x1), (2, .int x2), (3, .int x3), (4, .int (x4 + 1))]) [0, 1, 2, 3, 4] rfl ?_
  exact k
theorem sg_M_lets_52_ffft52 {K : KX} {G : GG} {w0 : va_W} {Q : State → Prop} (X : Bd K G w0 "FirstTreesModel" c_M_lets 6 (some .int) rm_M_lets) (σ : St) (x1 : Int32) (x2 : Int32) (x3 : Int32) (x4 : Int32) (n59 : Nat) (r68 : Int64) (r85 : Int32) (e59 : x1 = nI n59) (h59 : n59 < 16) (c60 : ¬ (xi σ 1 n59) ≤ x4) (t68 : Ct y_M_firstOf c_M_firstOf 9 (some .long) rm_M_firstOf G [.ref (xa σ 0), .int x1, .int x4, .int 0] (WM G σ) (eqp (some (.long r68)) (WM G σ))) (c76 : ¬ ((shrL r68 x2) &&& 1) = 1) (t85 : Ct y_M_rowIsNothing c_M_rowIsNothing 7 (some .boolean) rm_M_rowIsNothing G [.ref (xa σ 0), .int x1, .int x4, .int 0] (WM G σ) (eqp (some (.int r85)) (WM G σ))) (c88 : ¬ r85 = 0) (c102 : ¬ ((shrL (xl σ 15 n59) x2) &&& 1) = 1) (k : Lb K G w0 Q 6 52 [(0, .ref (xa σ 0)), (1, .int x1), (2, .int x2), (3, .int x3), (4, .int (x4 + 1))] [] (WM G σ) 0 0) : Lb K G w0 Q 6 52 [(0, .ref (xa σ 0)), (1, .int x1), (2, .int x2), (3, .int x3), (4, .int x4)] [] (WM G σ) 0 0 := by
  refine b_iload X d_M_lets_52 4 rfl ?_
  refine b_aload_n X d_M_lets_54 0 rfl rfl ?_
  refine b_get X fl_M_7 0 rfl (v := .ref (xa σ 1)) rfl d_M_lets_55 ?_
  refine b_iload_n X d_M_lets_58 1 rfl rfl ?_
  refine b_iald X 1 rfl (by decide) n59 e59 h59 d_M_lets_59 ?_
  refine b_icmp_ge X (tgt := 135) d_M_lets_60 (by decide) (fun h => absurd h c60) (fun _ => ?_)
  refine b_aload_n X d_M_lets_63 0 rfl rfl ?_
  refine b_iload_n X d_M_lets_64 1 rfl rfl ?_
  refine b_iload X d_M_lets_65 4 rfl ?_
  refine b_iconst X (v := 0) d_M_lets_67 (by decide) ?_
  refine b_dV X cf_M_firstOf ci_M_firstOf ml_M_181 t68 0 rfl rfl (As := [.int x1, .int x4, .int 0]) (rest := []) rfl (Nat.le_of_ble_eq_true rfl) ⟨Nat.le_of_ble_eq_true rfl, Nat.le_of_ble_eq_true rfl⟩ ⟨Nat.le_of_ble_eq_true rfl, Nat.le_of_ble_eq_true rfl⟩ rfl rfl d_M_lets_68 ?_
  refine b_iload_n X d_M_lets_71 2 rfl rfl ?_
  refine b_lshr X (v := (shrL r68 x2)) d_M_lets_72 rfl ?_
  refine b_lconst X (v := 1) d_M_lets_73 rfl ?_
  refine b_land X d_M_lets_74 ?_
  refine b_lconst X (v := 1) d_M_lets_75 rfl ?_
  refine b_l_eq X (tgt := 106) d_M_lets_76 d_M_lets_77 (by decide) (fun h => absurd h c76) (fun _ => ?_)
  refine b_aload_n X d_M_lets_80 0 rfl rfl ?_
  refine b_iload_n X d_M_lets_81 1 rfl rfl ?_
  refine b_iload X d_M_lets_82 4 rfl ?_
  refine b_iconst X (v := 0) d_M_lets_84 (by decide) ?_
  refine b_dV X cf_M_rowIsNothing ci_M_rowIsNothing ml_M_92 t85 0 rfl rfl (As := [.int x1, .int x4, .int 0]) (rest := []) rfl (Nat.le_of_ble_eq_true rfl) ⟨Nat.le_of_ble_eq_true rfl, Nat.le_of_ble_eq_true rfl⟩ ⟨Nat.le_of_ble_eq_true rfl, Nat.le_of_ble_eq_true rfl⟩ rfl rfl d_M_lets_85 ?_
  refine b_if_eq X (tgt := 110) d_M_lets_88 (by decide) (fun h => absurd h c88) (fun _ => ?_)
  refine b_aload_n X d_M_lets_91 0 rfl rfl ?_
  refine b_get X fl_M_55 0 rfl (v := .ref (xa σ 15)) rfl d_M_lets_92 ?_
  refine b_iload_n X d_M_lets_95 1 rfl rfl ?_
  refine b_lald X 15 rfl (by decide) n59 e59 h59 d_M_lets_96 ?_
  refine b_iload_n X d_M_lets_97 2 rfl rfl ?_
  refine b_lshr X (v := (shrL (xl σ 15 n59) x2)) d_M_lets_98 rfl ?_
  refine b_lconst X (v := 1) d_M_lets_99 rfl ?_
  refine b_land X d_M_lets_100 ?_
  refine b_lconst X (v := 1) d_M_lets_101 rfl ?_
  refine b_l_ne X (tgt := 110) d_M_lets_102 d_M_lets_103 (by decide) (fun _ => ?_) (fun h => absurd h c102)
  refine b_iconst X (v := 0) d_M_lets_110 (by decide) ?_
  refine b_istore X (lv' := [(0, .ref (xa σ 0)), (1, .int x1), (2, .int x2), (3, .int x3), (4, .int x4), (5, .int 0)]) d_M_lets_111 (by decide) [1, 2, 3, 4, 5, 0] rfl ?_
  refine b_iload X d_M_lets_113 5 rfl ?_
  refine b_if_eq X (tgt := 127) d_M_lets_115 (by decide) (fun _ => ?_) (fun h => absurd h (by decide))
  refine b_iload_n X d_M_lets_127 3 rfl rfl ?_
  refine b_istore_n X (lv' := [(0, .ref (xa σ 0)), (1, .int x1), (2, .int x2), (3, .int x3), (4, .int x4), (5, .int 0)]) d_M_lets_128 rfl (by decide) [1, 2, 3, 0, 4, 5] rfl ?_
  refine b_iinc X (lv' := [(0, .ref (xa σ 0)), (1, .int x1), (2, .int x2), (3, .int x3), (4, .int (x4 + 1)), (5, .int 0)]) d_M_lets_129 4 rfl (v := (x4 + 1)) rfl (by decide) [1, 2, 3, 4, 0, 5] rfl ?_
  refine b_goto X (tgt := 52) d_M_lets_132 (by decide) ?_
  refine Lb.pick (lv' := [(0, .ref (xa σ 0)), (1, .int x1), (2, .int x2), (3, .int x3), (4, .int (x4 + 1))]) [0, 1, 2, 3, 4] rfl ?_
  exact k
theorem sg_M_lets_52_ffff52 {K : KX} {G : GG} {w0 : va_W} {Q : State → Prop} (X : Bd K G w0 "FirstTreesModel" c_M_lets 6 (some .int) rm_M_lets) (σ : St) (x1 : Int32) (x2 : Int32) (x3 : Int32) (x4 : Int32) (n59 : Nat) (r68 : Int64) (r85 : Int32) (e59 : x1 = nI n59) (h59 : n59 < 16) (c60 : ¬ (xi σ 1 n59) ≤ x4) (t68 : Ct y_M_firstOf c_M_firstOf 9 (some .long) rm_M_firstOf G [.ref (xa σ 0), .int x1, .int x4, .int 0] (WM G σ) (eqp (some (.long r68)) (WM G σ))) (c76 : ¬ ((shrL r68 x2) &&& 1) = 1) (t85 : Ct y_M_rowIsNothing c_M_rowIsNothing 7 (some .boolean) rm_M_rowIsNothing G [.ref (xa σ 0), .int x1, .int x4, .int 0] (WM G σ) (eqp (some (.int r85)) (WM G σ))) (c88 : ¬ r85 = 0) (c102 : ((shrL (xl σ 15 n59) x2) &&& 1) = 1) (k : Lb K G w0 Q 6 52 [(0, .ref (xa σ 0)), (1, .int x1), (2, .int x2), (3, .int (x3 ||| (1 <<< (x4 &&& 31)))), (4, .int (x4 + 1))] [] (WM G σ) 0 0) : Lb K G w0 Q 6 52 [(0, .ref (xa σ 0)), (1, .int x1), (2, .int x2), (3, .int x3), (4, .int x4)] [] (WM G σ) 0 0 := by
  refine b_iload X d_M_lets_52 4 rfl ?_
  refine b_aload_n X d_M_lets_54 0 rfl rfl ?_
  refine b_get X fl_M_7 0 rfl (v := .ref (xa σ 1)) rfl d_M_lets_55 ?_
  refine b_iload_n X d_M_lets_58 1 rfl rfl ?_
  refine b_iald X 1 rfl (by decide) n59 e59 h59 d_M_lets_59 ?_
  refine b_icmp_ge X (tgt := 135) d_M_lets_60 (by decide) (fun h => absurd h c60) (fun _ => ?_)
  refine b_aload_n X d_M_lets_63 0 rfl rfl ?_
  refine b_iload_n X d_M_lets_64 1 rfl rfl ?_
  refine b_iload X d_M_lets_65 4 rfl ?_
  refine b_iconst X (v := 0) d_M_lets_67 (by decide) ?_
  refine b_dV X cf_M_firstOf ci_M_firstOf ml_M_181 t68 0 rfl rfl (As := [.int x1, .int x4, .int 0]) (rest := []) rfl (Nat.le_of_ble_eq_true rfl) ⟨Nat.le_of_ble_eq_true rfl, Nat.le_of_ble_eq_true rfl⟩ ⟨Nat.le_of_ble_eq_true rfl, Nat.le_of_ble_eq_true rfl⟩ rfl rfl d_M_lets_68 ?_
  refine b_iload_n X d_M_lets_71 2 rfl rfl ?_
  refine b_lshr X (v := (shrL r68 x2)) d_M_lets_72 rfl ?_
  refine b_lconst X (v := 1) d_M_lets_73 rfl ?_
  refine b_land X d_M_lets_74 ?_
  refine b_lconst X (v := 1) d_M_lets_75 rfl ?_
  refine b_l_eq X (tgt := 106) d_M_lets_76 d_M_lets_77 (by decide) (fun h => absurd h c76) (fun _ => ?_)
  refine b_aload_n X d_M_lets_80 0 rfl rfl ?_
  refine b_iload_n X d_M_lets_81 1 rfl rfl ?_
  refine b_iload X d_M_lets_82 4 rfl ?_
  refine b_iconst X (v := 0) d_M_lets_84 (by decide) ?_
  refine b_dV X cf_M_rowIsNothing ci_M_rowIsNothing ml_M_92 t85 0 rfl rfl (As := [.int x1, .int x4, .int 0]) (rest := []) rfl (Nat.le_of_ble_eq_true rfl) ⟨Nat.le_of_ble_eq_true rfl, Nat.le_of_ble_eq_true rfl⟩ ⟨Nat.le_of_ble_eq_true rfl, Nat.le_of_ble_eq_true rfl⟩ rfl rfl d_M_lets_85 ?_
  refine b_if_eq X (tgt := 110) d_M_lets_88 (by decide) (fun h => absurd h c88) (fun _ => ?_)
  refine b_aload_n X d_M_lets_91 0 rfl rfl ?_
  refine b_get X fl_M_55 0 rfl (v := .ref (xa σ 15)) rfl d_M_lets_92 ?_
  refine b_iload_n X d_M_lets_95 1 rfl rfl ?_
  refine b_lald X 15 rfl (by decide) n59 e59 h59 d_M_lets_96 ?_
  refine b_iload_n X d_M_lets_97 2 rfl rfl ?_
  refine b_lshr X (v := (shrL (xl σ 15 n59) x2)) d_M_lets_98 rfl ?_
  refine b_lconst X (v := 1) d_M_lets_99 rfl ?_
  refine b_land X d_M_lets_100 ?_
  refine b_lconst X (v := 1) d_M_lets_101 rfl ?_
  refine b_l_ne X (tgt := 110) d_M_lets_102 d_M_lets_103 (by decide) (fun h => absurd c102 h) (fun _ => ?_)
  refine b_iconst X (v := 1) d_M_lets_106 (by decide) ?_
  refine b_goto X (tgt := 111) d_M_lets_107 (by decide) ?_
  refine b_istore X (lv' := [(0, .ref (xa σ 0)), (1, .int x1), (2, .int x2), (3, .int x3), (4, .int x4), (5, .int 1)]) d_M_lets_111 (by decide) [1, 2, 3, 4, 5, 0] rfl ?_
  refine b_iload X d_M_lets_113 5 rfl ?_
  refine b_if_eq X (tgt := 127) d_M_lets_115 (by decide) (fun h => absurd h (by decide)) (fun _ => ?_)
  refine b_iload_n X d_M_lets_118 3 rfl rfl ?_
  refine b_iconst X (v := 1) d_M_lets_119 (by decide) ?_
  refine b_iload X d_M_lets_120 4 rfl ?_
  refine b_ishl X d_M_lets_122 ?_
  refine b_ior X d_M_lets_123 ?_
  refine b_goto X (tgt := 128) d_M_lets_124 (by decide) ?_
  refine b_istore_n X (lv' := [(0, .ref (xa σ 0)), (1, .int x1), (2, .int x2), (3, .int (x3 ||| (1 <<< (x4 &&& 31)))), (4, .int x4), (5, .int 1)]) d_M_lets_128 rfl (by decide) [1, 2, 3, 0, 4, 5] rfl ?_
  refine b_iinc X (lv' := [(0, .ref (xa σ 0)), (1, .int x1), (2, .int x2), (3, .int (x3 ||| (1 <<< (x4 &&& 31)))), (4, .int (x4 + 1)), (5, .int 1)]) d_M_lets_129 4 rfl (v := (x4 + 1)) rfl (by decide) [1, 2, 3, 4, 0, 5] rfl ?_
  refine b_goto X (tgt := 52) d_M_lets_132 (by decide) ?_
  refine Lb.pick (lv' := [(0, .ref (xa σ 0)), (1, .int x1), (2, .int x2), (3, .int (x3 ||| (1 <<< (x4 &&& 31)))), (4, .int (x4 + 1))]) [0, 1, 2, 3, 4] rfl ?_
  exact k
