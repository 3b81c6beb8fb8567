def PH (G : GG) (o a : Nat) (f' : Nat → Int64) (R : St → Prop) (k5 : Int32) : PostT := fun v w => v = some (.int k5) ∧ ∃ σ' : St, xa σ' 0 = a ∧ R σ' ∧ w = ow G o f' :: WC G σ'
set_option maxRecDepth 20000 in
theorem hn_L_parseR (G : GG) (σ : St) (o : Nat) (f : Nat → Int64)  {rm' : Room} {R : St → Prop} (r : Int32) (ct : Ct y_F_parse c_F_parse 2 (some .int) rm' G [.ref (xa σ 0)] (WC G σ) (PP G (xa σ 0) R (some (.int r)))) : CtH y_L_parse c_L_parse 3 (some .int) hs_L_parse (rmh 2 rm') G [.ref (xa σ 0), .ref o] (ow G o f :: WC G σ) (PH G o (xa σ 0) (vp_updL f 0 (Int32.toInt64 r)) R 0) := by
  refine CtH.of (by decide +kernel) (Nat.le_of_ble_eq_true rfl) (fun K X hnf hex => ?_)
  show Lb K G _ _ 3 0 [(0, .ref (xa σ 0)), (1, .ref o)] [] _ 0 0
  refine b_aload_n X d_L_parse_0 1 rfl rfl ?_
  refine b_iconst X (v := 0) d_L_parse_1 (by decide) ?_
  refine b_aload_n X d_L_parse_2 0 rfl rfl ?_
  refine b_callV1 X cf_F_parse ci_F_parse ml_L_36 ct 0 rfl rfl (As := []) (rest := [.int 0, .ref o]) rfl (Nat.le_of_ble_eq_true rfl) ⟨Nat.le_refl _, Nat.le_refl _⟩ ⟨Nat.le_of_eq (Nat.zero_add _), Nat.le_of_eq (Nat.zero_add _)⟩ rfl d_L_parse_3 (fun v w'' hp => ?_)
  obtain ⟨rfl, σ', ha, hR, rfl⟩ := hp
  refine Lb.eq (st' := .int r :: [.int 0, .ref o]) rfl rfl rfl ?_
  refine b_i2l X (v := (Int32.toInt64 r)) d_L_parse_6 rfl ?_
  refine b_last X 0 rfl (by decide) 0 rfl (by decide) rfl d_L_parse_7 ?_
  refine b_goto X (tgt := 17) d_L_parse_8 (by decide) ?_
  refine b_iconst X (v := 0) d_L_parse_17 (by decide) ?_
  refine Lb.widen (Nat.le_of_eq (Nat.zero_add _)) (Nat.le_of_eq (Nat.zero_add _)) ?_
  exact b_iret X (rm := (rmh 2 rm')) d_L_parse_18 ⟨rfl, σ', ha, hR, rfl⟩
set_option maxRecDepth 20000 in
theorem hz_L_parse_2R (G : GG) (σ : St) (o : Nat) (f : Nat → Int64)  {rm' : Room} {R : St → Prop} (ct : CtT y_F_parse c_F_parse 2 (some .int) rm' G [.ref (xa σ 0)] (WC G σ) "java/lang/UnsupportedOperationException" (PZ G (xa σ 0) R)) : CtH y_L_parse c_L_parse 3 (some .int) hs_L_parse (rmh 2 rm') G [.ref (xa σ 0), .ref o] (ow G o f :: WC G σ) (PH G o (xa σ 0) f R 2) := by
  refine CtH.of (by decide +kernel) (Nat.le_of_ble_eq_true rfl) (fun K X hnf hex => ?_)
  show Lb K G _ _ 3 0 [(0, .ref (xa σ 0)), (1, .ref o)] [] _ 0 0
  refine b_aload_n X d_L_parse_0 1 rfl rfl ?_
  refine b_iconst X (v := 0) d_L_parse_1 (by decide) ?_
  refine b_aload_n X d_L_parse_2 0 rfl rfl ?_
  refine b_callT1 X cf_F_parse ci_F_parse ml_L_36 ct 0 rfl rfl (As := []) (rest := [.int 0, .ref o]) rfl (Nat.le_of_ble_eq_true rfl) ⟨Nat.le_refl _, Nat.le_refl _⟩ ⟨Nat.le_of_eq (Nat.zero_add _), Nat.le_of_eq (Nat.zero_add _)⟩ rfl d_L_parse_3 (fun w'' hp => ?_)
  obtain ⟨σ', ha, hR, rfl⟩ := hp
  refine b_catch X hnf hex [(0, 8, 11, 27)] (0, 8, 14, 13) [] rfl (by
    intro y hy
    simp only [List.mem_cons, List.not_mem_nil, or_false] at hy
    rcases hy with rfl
    · exact ⟨by decide, by decide, by decide, "java/lang/IllegalStateException", ws_3 13 rfl rfl, by decide +kernel⟩) ⟨by decide, by decide, by decide, ws_2 131 rfl rfl, List.mem_of_getElem? (i := 4) rfl⟩ (fun a => ?_)
  refine b_astore_n X d_L_parse_14 rfl (by decide) [] rfl ?_
  refine b_iconst X (v := 2) d_L_parse_15 (by decide) ?_
  refine Lb.widen (Nat.le_of_eq (Nat.zero_add _)) (Nat.le_of_eq (Nat.zero_add _)) ?_
  exact b_iret X (rm := (rmh 2 rm')) d_L_parse_16 ⟨rfl, σ', ha, hR, rfl⟩
theorem lc_8nR {K : KX} {G : GG} {Q : State → Prop} {b L : Nat} {xs : Nat → Int32} (X : Bd K G [] "FirstTreesLaw" code 8 ret room_1) (hnf : nf (ks K)) (hX : va_X b L xs (ks K) (ks K).heap) (hbl : b < (ks K).heap.size) (hL : L < 2 ^ 31) (σ τ : St) (o : Nat) (f : Nat → Int64) (i cells slots : Nat) (hgo : ¬ nI L - 3 < nI i) (hi : i + 3 ≤ L) (hcase : xs i &&& 31 = nI 8) (rH : Room) (k5 : Int32) (f' : Nat → Int64) (R : St → Prop) (b6 : Int32) (qM : Sq) (tH : CtH y_L_parse c_L_parse 3 (some .int) hs_L_parse rH G [.ref (xa σ 0), .ref o] (ow G o f :: WC G σ) (PH G o (xa σ 0) f' R k5)) (hRH : rH.frames + 1 ≤ 11 ∧ 8 + (3 + 11) + rH.locals ≤ 384) (hfH : cells + rH.cells ≤ 601024 ∧ slots + rH.slots ≤ 7293034) (tM : Ct y_M_parse c_M_parse 3 (some .int) rm_M_parse G [.ref (xa τ 0)] (WM G τ) (eqp (some (.int b6)) (WM G (xa τ, qM)))) (c442 : (xi (xa τ, qM) 0 0) = k5) (hk : k5 = 0) (c458 : (f' 0) = (Int32.toInt64 b6)) (k : ∀ σ' : St, xa σ' 0 = xa σ 0 → R σ' → Lb K G [] Q 8 23 [(0, .ref b), (1, .ref (xa σ 0)), (2, .ref (xa τ 0)), (3, .ref o), (4, .int (nI (i + 3)))] [] (ow G o f' :: (WC G σ' ++ WM G (xa τ, qM))) (cells + rH.cells) (slots + rH.slots)) : Lb K G [] Q 8 23 [(0, .ref b), (1, .ref (xa σ 0)), (2, .ref (xa τ 0)), (3, .ref o), (4, .int (nI i))] [] (ow G o f :: (WC G σ ++ WM G τ)) cells slots := by
  refine b_iload X d_L_law_23 4 rfl ?_
  refine b_aload_n X d_L_law_25 0 rfl rfl ?_
  refine b_slen X hX hbl d_L_law_26 ?_
  refine b_iconst X (v := 3) d_L_law_27 (by decide) ?_
  refine b_isub X d_L_law_28 ?_
  refine b_icmp_gt X (tgt := 950) d_L_law_29 (by decide) (fun h => absurd h hgo) (fun _ => ?_)
  refine b_aload_n X d_L_law_32 0 rfl rfl ?_
  refine b_iload X d_L_law_33 4 rfl ?_
  refine b_sld X hX hbl i rfl (by omega) hL d_L_law_35 ?_
  refine b_bipush X (v := 31) d_L_law_36 (by decide) ?_
  refine b_iand X d_L_law_38 ?_
  refine Lb.eq (st' := [.int (nI 8)]) rfl (by rw [hcase]) rfl ?_
  refine b_tableIn X (tgt := 423) d_L_law_39 (by decide) (by decide) rfl (by decide) ?_
  refine b_aload_n X d_L_law_423 1 rfl rfl ?_
  refine b_aload_n X d_L_law_424 3 rfl rfl ?_
  refine b_callH (wl := []) (wr := WM G τ) X hnf cfh_L_parse ml_L_105 rfl tH (As := [.ref (xa σ 0), .ref o]) (rest := []) rfl (Nat.le_of_ble_eq_true rfl) hRH hfH rfl d_L_law_425 (fun v2 w2 h2 => ?_)
  obtain ⟨rfl, σ', ha, hR, rfl⟩ := h2
  refine Lb.eq (st' := [.int k5]) (w' := ow G o f' :: (WC G σ' ++ WM G τ)) rfl rfl rfl ?_
  refine b_istore X (lv' := [(0, .ref b), (1, .ref (xa σ 0)), (2, .ref (xa τ 0)), (3, .ref o), (4, .int (nI i)), (5, .int k5)]) d_L_law_428 (by decide) [1, 2, 3, 4, 5, 0] rfl ?_
  refine b_aload_n X d_L_law_430 2 rfl rfl ?_
  refine b_callVM X cf_M_parse ci_M_parse ml_L_107 tM 0 rfl rfl (As := []) (rest := []) rfl (Nat.le_of_ble_eq_true rfl) ⟨Nat.le_of_ble_eq_true rfl, Nat.le_of_ble_eq_true rfl⟩ ⟨rfl, rfl⟩ hfH rfl rfl d_L_law_431 ?_
  refine b_istore X (lv' := [(0, .ref b), (1, .ref (xa σ 0)), (2, .ref (xa τ 0)), (3, .ref o), (4, .int (nI i)), (5, .int k5), (6, .int b6)]) d_L_law_434 (by decide) [1, 2, 3, 4, 5, 6, 0] rfl ?_
  refine b_aload_n X d_L_law_436 2 rfl rfl ?_
  refine b_callVM X cf_M_thrown ci_M_thrown ml_L_75 (ct_M_thrown_ G (xa τ, qM)) 0 rfl rfl (As := []) (rest := []) rfl (Nat.le_of_ble_eq_true rfl) ⟨Nat.le_of_ble_eq_true rfl, Nat.le_of_ble_eq_true rfl⟩ ⟨rfl, rfl⟩ hfH rfl rfl d_L_law_437 ?_
  refine b_iload X d_L_law_440 5 rfl ?_
  refine b_icmp_eq X (tgt := 447) d_L_law_442 (by decide) (fun _ => ?_) (fun h => absurd c442 h)
  refine b_iload X d_L_law_447 5 rfl ?_
  refine b_if_ne X (tgt := 464) d_L_law_449 (by decide) (fun h => absurd hk h) (fun _ => ?_)
  refine b_aload_n X d_L_law_452 3 rfl rfl ?_
  refine b_iconst X (v := 0) d_L_law_453 (by decide) ?_
  refine b_lald X 0 rfl (by decide) 0 rfl (by decide) d_L_law_454 ?_
  refine b_iload X d_L_law_455 6 rfl ?_
  refine b_i2l X (v := (Int32.toInt64 b6)) d_L_law_457 rfl ?_
  refine b_l_eq X (tgt := 464) d_L_law_458 d_L_law_459 (by decide) (fun _ => ?_) (fun h => absurd c458 h)
  refine b_goto X (tgt := 944) d_L_law_464 (by decide) ?_
  refine b_iinc X (lv' := [(0, .ref b), (1, .ref (xa σ 0)), (2, .ref (xa τ 0)), (3, .ref o), (4, .int (nI (i + 3)))]) d_L_law_944 4 rfl (v := nI (i + 3)) (nI_add i 3) (by decide) [1, 2, 3, 4, 0] rfl ?_
  refine b_goto X (tgt := 23) d_L_law_947 (by decide) ?_
  exact k σ' ha hR
theorem lc_8zR {K : KX} {G : GG} {Q : State → Prop} {b L : Nat} {xs : Nat → Int32} (X : Bd K G [] "FirstTreesLaw" code 8 ret room_1) (hnf : nf (ks K)) (hX : va_X b L xs (ks K) (ks K).heap) (hbl : b < (ks K).heap.size) (hL : L < 2 ^ 31) (σ τ : St) (o : Nat) (f : Nat → Int64) (i cells slots : Nat) (hgo : ¬ nI L - 3 < nI i) (hi : i + 3 ≤ L) (hcase : xs i &&& 31 = nI 8) (rH : Room) (k5 : Int32) (f' : Nat → Int64) (R : St → Prop) (b6 : Int32) (qM : Sq) (tH : CtH y_L_parse c_L_parse 3 (some .int) hs_L_parse rH G [.ref (xa σ 0), .ref o] (ow G o f :: WC G σ) (PH G o (xa σ 0) f' R k5)) (hRH : rH.frames + 1 ≤ 11 ∧ 8 + (3 + 11) + rH.locals ≤ 384) (hfH : cells + rH.cells ≤ 601024 ∧ slots + rH.slots ≤ 7293034) (tM : Ct y_M_parse c_M_parse 3 (some .int) rm_M_parse G [.ref (xa τ 0)] (WM G τ) (eqp (some (.int b6)) (WM G (xa τ, qM)))) (c442 : (xi (xa τ, qM) 0 0) = k5) (hk : ¬ k5 = 0) (k : ∀ σ' : St, xa σ' 0 = xa σ 0 → R σ' → Lb K G [] Q 8 23 [(0, .ref b), (1, .ref (xa σ 0)), (2, .ref (xa τ 0)), (3, .ref o), (4, .int (nI (i + 3)))] [] (ow G o f' :: (WC G σ' ++ WM G (xa τ, qM))) (cells + rH.cells) (slots + rH.slots)) : Lb K G [] Q 8 23 [(0, .ref b), (1, .ref (xa σ 0)), (2, .ref (xa τ 0)), (3, .ref o), (4, .int (nI i))] [] (ow G o f :: (WC G σ ++ WM G τ)) cells slots := by
  refine b_iload X d_L_law_23 4 rfl ?_
  refine b_aload_n X d_L_law_25 0 rfl rfl ?_
  refine b_slen X hX hbl d_L_law_26 ?_
  refine b_iconst X (v := 3) d_L_law_27 (by decide) ?_
  refine b_isub X d_L_law_28 ?_
  refine b_icmp_gt X (tgt := 950) d_L_law_29 (by decide) (fun h => absurd h hgo) (fun _ => ?_)
  refine b_aload_n X d_L_law_32 0 rfl rfl ?_
  refine b_iload X d_L_law_33 4 rfl ?_
  refine b_sld X hX hbl i rfl (by omega) hL d_L_law_35 ?_
  refine b_bipush X (v := 31) d_L_law_36 (by decide) ?_
  refine b_iand X d_L_law_38 ?_
  refine Lb.eq (st' := [.int (nI 8)]) rfl (by rw [hcase]) rfl ?_
  refine b_tableIn X (tgt := 423) d_L_law_39 (by decide) (by decide) rfl (by decide) ?_
  refine b_aload_n X d_L_law_423 1 rfl rfl ?_
  refine b_aload_n X d_L_law_424 3 rfl rfl ?_
  refine b_callH (wl := []) (wr := WM G τ) X hnf cfh_L_parse ml_L_105 rfl tH (As := [.ref (xa σ 0), .ref o]) (rest := []) rfl (Nat.le_of_ble_eq_true rfl) hRH hfH rfl d_L_law_425 (fun v2 w2 h2 => ?_)
  obtain ⟨rfl, σ', ha, hR, rfl⟩ := h2
  refine Lb.eq (st' := [.int k5]) (w' := ow G o f' :: (WC G σ' ++ WM G τ)) rfl rfl rfl ?_
  refine b_istore X (lv' := [(0, .ref b), (1, .ref (xa σ 0)), (2, .ref (xa τ 0)), (3, .ref o), (4, .int (nI i)), (5, .int k5)]) d_L_law_428 (by decide) [1, 2, 3, 4, 5, 0] rfl ?_
  refine b_aload_n X d_L_law_430 2 rfl rfl ?_
  refine b_callVM X cf_M_parse ci_M_parse ml_L_107 tM 0 rfl rfl (As := []) (rest := []) rfl (Nat.le_of_ble_eq_true rfl) ⟨Nat.le_of_ble_eq_true rfl, Nat.le_of_ble_eq_true rfl⟩ ⟨rfl, rfl⟩ hfH rfl rfl d_L_law_431 ?_
  refine b_istore X (lv' := [(0, .ref b), (1, .ref (xa σ 0)), (2, .ref (xa τ 0)), (3, .ref o), (4, .int (nI i)), (5, .int k5), (6, .int b6)]) d_L_law_434 (by decide) [1, 2, 3, 4, 5, 6, 0] rfl ?_
  refine b_aload_n X d_L_law_436 2 rfl rfl ?_
  refine b_callVM X cf_M_thrown ci_M_thrown ml_L_75 (ct_M_thrown_ G (xa τ, qM)) 0 rfl rfl (As := []) (rest := []) rfl (Nat.le_of_ble_eq_true rfl) ⟨Nat.le_of_ble_eq_true rfl, Nat.le_of_ble_eq_true rfl⟩ ⟨rfl, rfl⟩ hfH rfl rfl d_L_law_437 ?_
  refine b_iload X d_L_law_440 5 rfl ?_
  refine b_icmp_eq X (tgt := 447) d_L_law_442 (by decide) (fun _ => ?_) (fun h => absurd c442 h)
  refine b_iload X d_L_law_447 5 rfl ?_
  refine b_if_ne X (tgt := 464) d_L_law_449 (by decide) (fun _ => ?_) (fun h => absurd h hk)
  refine b_goto X (tgt := 944) d_L_law_464 (by decide) ?_
  refine b_iinc X (lv' := [(0, .ref b), (1, .ref (xa σ 0)), (2, .ref (xa τ 0)), (3, .ref o), (4, .int (nI (i + 3)))]) d_L_law_944 4 rfl (v := nI (i + 3)) (nI_add i 3) (by decide) [1, 2, 3, 4, 0] rfl ?_
  refine b_goto X (tgt := 23) d_L_law_947 (by decide) ?_
  exact k σ' ha hR
