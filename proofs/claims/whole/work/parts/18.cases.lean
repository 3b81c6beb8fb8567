/-! the law's steps: its world is the answer cell, the component, the reference -/
section R18
variable {K : KX} {G : GG} {w0 : va_W} {Q : State → Prop} {own : String} {cc : ByteArray} {nL pc cells slots : Nat} {rt : Option FieldType} {rm : Room} {lv : List (Nat × Value)} {st : List Value}
variable {y : MethodName} {bytes : ByteArray} {maxL n index b : Nat} {ret : Option FieldType} {rm' : Room} {As rest st0 st1 : List Value} {v : Option Value} {x0 x1 : Nat × va_E} {wa wa' wb wb' w : va_W}
theorem b_tableIn (X : Bd K G w0 own cc nL rt rm) {dflt lo hi : Int} {offs : Array Int} {len : Nat} {x : Int32} {off : Int} {tgt : Nat} (d : decode cc pc = .ok (.tableswitch dflt lo hi offs, len)) (h1 : ¬ x.toInt < lo) (h2 : ¬ hi < x.toInt) (ho : offs[(x.toInt - lo).toNat]? = some off) (ht : (pc : Int) + off = (tgt : Int)) (k : Lb K G w0 Q nL tgt lv st w cells slots) : Lb K G w0 Q nL pc lv (.int x :: st) w cells slots :=
  fun ls H locs hl hP hD hS => lv_tableIn X.x X.b d h1 h2 ho ht (k ls H locs hl hP hD hS)
theorem b_tableOut (X : Bd K G w0 own cc nL rt rm) {dflt lo hi : Int} {offs : Array Int} {len : Nat} {x : Int32} {tgt : Nat} (d : decode cc pc = .ok (.tableswitch dflt lo hi offs, len)) (h : x.toInt < lo ∨ hi < x.toInt) (ht : (pc : Int) + dflt = (tgt : Int)) (k : Lb K G w0 Q nL tgt lv st w cells slots) : Lb K G w0 Q nL pc lv (.int x :: st) w cells slots :=
  fun ls H locs hl hP hD hS => lv_tableOut X.x X.b d h ht (k ls H locs hl hP hD hS)
theorem b_callHM (X : Bd K G w0 own cc nL rt rm) (hnf : nf (ks K)) {hs : EX} (C : CFH y bytes maxL ret hs n) (ml : Cond.methodLink own index y ∈ WS) (ct : CtH y bytes maxL ret hs rm' G As (x0 :: wa) (eqp v (x1 :: wa'))) (hn : As.length = n) (hst : (rest.map fun v => v.category).sum ≤ 8) (hR : rm'.frames + 1 ≤ rm.frames ∧ 8 + (maxL + 11) + rm'.locals ≤ rm.locals) (hf : cells + rm'.cells ≤ rm.cells ∧ slots + rm'.slots ≤ rm.slots) (hs0 : st0 = As.reverse ++ rest) (hs1 : v.toList ++ rest = st1) (d : decode cc pc = .ok (.invokestatic index, 3))
    (k : Lb K G w0 Q nL (pc + 3) lv st1 (x1 :: (wa' ++ wb)) (cells + rm'.cells) (slots + rm'.slots)) : Lb K G w0 Q nL pc lv st0 (x0 :: (wa ++ wb)) cells slots :=
  b_callH (wl := []) (wr := wb) X hnf C ml rfl ct hn hst hR hf hs0 d (fun v2 w2 h => by obtain ⟨rfl, rfl⟩ := h; rw [hs1]; exact k)
theorem b_callVM (X : Bd K G w0 own cc nL rt rm) (C : CF y bytes maxL ret n) (hi : Cond.instanceMethod y ∈ WS ∧ Cond.selects y.cls y y ∈ WS) (ml : Cond.methodLink own index y ∈ WS) (ct : Ct y bytes maxL ret rm' G (.ref b :: As) wb (eqp v wb')) (q0 : Nat) {ci : Nat} {fs : List Value} {T : u_T} {N : Nat} (he : wb[q0]? = some (b, .inr (ci, fs))) (hc : classes[ci]? = some (y.cls, T, N)) (hn : As.length = n) (hst : (rest.map fun v => v.category).sum ≤ 8) (hR : rm'.frames + 1 ≤ rm.frames ∧ 8 + (maxL + 11) + rm'.locals ≤ rm.locals) (hz : rm'.cells = 0 ∧ rm'.slots = 0) (hf : cells ≤ rm.cells ∧ slots ≤ rm.slots) (hs0 : st0 = As.reverse ++ .ref b :: rest) (hs1 : v.toList ++ rest = st1) (d : decode cc pc = .ok (.invokevirtual index, 3))
    (k : Lb K G w0 Q nL (pc + 3) lv st1 (x0 :: (wa ++ wb')) cells slots) : Lb K G w0 Q nL pc lv st0 (x0 :: (wa ++ wb)) cells slots :=
  b_callVA (wl := x0 :: wa) (wr := []) X C hi ml (by rw [List.append_nil]; rfl) ct q0 he hc hn hst hR (by rw [hz.1, hz.2]; exact hf) hs0 d (fun v2 w2 h => by
    obtain ⟨rfl, rfl⟩ := h
    rw [hs1, List.append_nil, hz.1, hz.2]; exact k)
theorem b_callVC (X : Bd K G w0 own cc nL rt rm) (C : CF y bytes maxL ret n) (hi : Cond.instanceMethod y ∈ WS ∧ Cond.selects y.cls y y ∈ WS) (ml : Cond.methodLink own index y ∈ WS) (ct : Ct y bytes maxL ret rm' G (.ref b :: As) wa (eqp v wa')) (q0 : Nat) {ci : Nat} {fs : List Value} {T : u_T} {N : Nat} (he : wa[q0]? = some (b, .inr (ci, fs))) (hc : classes[ci]? = some (y.cls, T, N)) (hn : As.length = n) (hst : (rest.map fun v => v.category).sum ≤ 8) (hR : rm'.frames + 1 ≤ rm.frames ∧ 8 + (maxL + 11) + rm'.locals ≤ rm.locals) (hz : rm'.cells = 0 ∧ rm'.slots = 0) (hf : cells ≤ rm.cells ∧ slots ≤ rm.slots) (hs0 : st0 = As.reverse ++ .ref b :: rest) (hs1 : v.toList ++ rest = st1) (d : decode cc pc = .ok (.invokevirtual index, 3))
    (k : Lb K G w0 Q nL (pc + 3) lv st1 (x0 :: (wa' ++ wb)) cells slots) : Lb K G w0 Q nL pc lv st0 (x0 :: (wa ++ wb)) cells slots :=
  b_callVA (wl := [x0]) (wr := wb) X C hi ml rfl ct q0 he hc hn hst hR (by rw [hz.1, hz.2]; exact hf) hs0 d (fun v2 w2 h => by
    obtain ⟨rfl, rfl⟩ := h
    rw [hs1, hz.1, hz.2]; exact k)
end R18
theorem lc_0n {K : KX} {G : GG} {Q : State → Prop} {b L : Nat} {xs : Nat → Int32} (X : Bd K G [] "FirstTreesLaw" code 8 ret room_1) (hnf : nf (ks K)) (hX : va_X b L xs (ks K) (ks K).heap) (hbl : b < (ks K).heap.size) (hL : L < 2 ^ 31) (σ τ : St) (o : Nat) (f : Nat → Int64) (i cells slots : Nat) (hgo : ¬ nI L - 3 < nI i) (hi : i + 3 ≤ L) (hcase : xs i &&& 31 = nI 0) (rH : Room) (k5 : Int32) (f' : Nat → Int64) (w' : va_W) (b6 : Int32) (qM : Sq) (tH : CtH y_L_rule c_L_rule 3 (some .int) hs_L_rule rH G [.ref (xa σ 0), .ref o] (ow G o f :: WC G σ) (eqp (some (.int k5)) (ow G o f' :: w'))) (hRH : rH.frames + 1 ≤ 11 ∧ 8 + (3 + 11) + rH.locals ≤ 384) (hfH : cells + rH.cells ≤ 601024 ∧ slots + rH.slots ≤ 7293034) (tM : Ct y_M_rule c_M_rule 1 (some .int) rm_M_rule G [.ref (xa τ 0)] (WM G τ) (eqp (some (.int b6)) (WM G (xa τ, qM)))) (c143 : (xi (xa τ, qM) 0 0) = k5) (hk : k5 = 0) (c159 : (f' 0) = (Int32.toInt64 b6)) (k : Lb K G [] Q 8 23 [(0, .ref b), (1, .ref (xa σ 0)), (2, .ref (xa τ 0)), (3, .ref o), (4, .int (nI (i + 3)))] [] (ow G o f' :: (w' ++ WM G (xa τ, qM))) (cells + rH.cells) (slots + rH.slots)) : Lb K G [] Q 8 23 [(0, .ref b), (1, .ref (xa σ 0)), (2, .ref (xa τ 0)), (3, .ref o), (4, .int (nI i))] [] (ow G o f :: (WC G σ ++ WM G τ)) cells slots := by
  refine b_iload X d_L_law_23 4 rfl ?_
  refine b_aload_n X d_L_law_25 0 rfl rfl ?_
  refine b_slen X hX hbl d_L_law_26 ?_
  refine b_iconst X (v := 3) d_L_law_27 (by decide) ?_
  refine b_isub X d_L_law_28 ?_
  refine b_icmp_gt X (tgt := 950) d_L_law_29 (by decide) (fun h => absurd h hgo) (fun _ => ?_)
  refine b_aload_n X d_L_law_32 0 rfl rfl ?_
  refine b_iload X d_L_law_33 4 rfl ?_
  refine b_sld X hX hbl i rfl (by omega) hL d_L_law_35 ?_
  refine b_bipush X (v := 31) d_L_law_36 (by decide) ?_
  refine b_iand X d_L_law_38 ?_
  refine Lb.eq (st' := [.int (nI 0)]) rfl (by rw [hcase]) rfl ?_
  refine b_tableIn X (tgt := 124) d_L_law_39 (by decide) (by decide) rfl (by decide) ?_
  refine b_aload_n X d_L_law_124 1 rfl rfl ?_
  refine b_aload_n X d_L_law_125 3 rfl rfl ?_
  refine b_callHM X hnf cfh_L_rule ml_L_69 tH (As := [.ref (xa σ 0), .ref o]) (rest := []) rfl (Nat.le_of_ble_eq_true rfl) hRH hfH rfl rfl d_L_law_126 ?_
  refine b_istore X (lv' := [(0, .ref b), (1, .ref (xa σ 0)), (2, .ref (xa τ 0)), (3, .ref o), (4, .int (nI i)), (5, .int k5)]) d_L_law_129 (by decide) [1, 2, 3, 4, 5, 0] rfl ?_
  refine b_aload_n X d_L_law_131 2 rfl rfl ?_
  refine b_callVM X cf_M_rule ci_M_rule ml_L_74 tM 0 rfl rfl (As := []) (rest := []) rfl (Nat.le_of_ble_eq_true rfl) ⟨Nat.le_of_ble_eq_true rfl, Nat.le_of_ble_eq_true rfl⟩ ⟨rfl, rfl⟩ hfH rfl rfl d_L_law_132 ?_
  refine b_istore X (lv' := [(0, .ref b), (1, .ref (xa σ 0)), (2, .ref (xa τ 0)), (3, .ref o), (4, .int (nI i)), (5, .int k5), (6, .int b6)]) d_L_law_135 (by decide) [1, 2, 3, 4, 5, 6, 0] rfl ?_
  refine b_aload_n X d_L_law_137 2 rfl rfl ?_
  refine b_callVM X cf_M_thrown ci_M_thrown ml_L_75 (ct_M_thrown_ G (xa τ, qM)) 0 rfl rfl (As := []) (rest := []) rfl (Nat.le_of_ble_eq_true rfl) ⟨Nat.le_of_ble_eq_true rfl, Nat.le_of_ble_eq_true rfl⟩ ⟨rfl, rfl⟩ hfH rfl rfl d_L_law_138 ?_
  refine b_iload X d_L_law_141 5 rfl ?_
  refine b_icmp_eq X (tgt := 148) d_L_law_143 (by decide) (fun _ => ?_) (fun h => absurd c143 h)
  refine b_iload X d_L_law_148 5 rfl ?_
  refine b_if_ne X (tgt := 165) d_L_law_150 (by decide) (fun h => absurd hk h) (fun _ => ?_)
  refine b_aload_n X d_L_law_153 3 rfl rfl ?_
  refine b_iconst X (v := 0) d_L_law_154 (by decide) ?_
  refine b_lald X 0 rfl (by decide) 0 rfl (by decide) d_L_law_155 ?_
  refine b_iload X d_L_law_156 6 rfl ?_
  refine b_i2l X (v := (Int32.toInt64 b6)) d_L_law_158 rfl ?_
  refine b_l_eq X (tgt := 165) d_L_law_159 d_L_law_160 (by decide) (fun _ => ?_) (fun h => absurd c159 h)
  refine b_goto X (tgt := 944) d_L_law_165 (by decide) ?_
  refine b_iinc X (lv' := [(0, .ref b), (1, .ref (xa σ 0)), (2, .ref (xa τ 0)), (3, .ref o), (4, .int (nI (i + 3)))]) d_L_law_944 4 rfl (v := nI (i + 3)) (nI_add i 3) (by decide) [1, 2, 3, 4, 0] rfl ?_
  refine b_goto X (tgt := 23) d_L_law_947 (by decide) ?_
  exact k
theorem lc_0z {K : KX} {G : GG} {Q : State → Prop} {b L : Nat} {xs : Nat → Int32} (X : Bd K G [] "FirstTreesLaw" code 8 ret room_1) (hnf : nf (ks K)) (hX : va_X b L xs (ks K) (ks K).heap) (hbl : b < (ks K).heap.size) (hL : L < 2 ^ 31) (σ τ : St) (o : Nat) (f : Nat → Int64) (i cells slots : Nat) (hgo : ¬ nI L - 3 < nI i) (hi : i + 3 ≤ L) (hcase : xs i &&& 31 = nI 0) (rH : Room) (k5 : Int32) (f' : Nat → Int64) (w' : va_W) (b6 : Int32) (qM : Sq) (tH : CtH y_L_rule c_L_rule 3 (some .int) hs_L_rule rH G [.ref (xa σ 0), .ref o] (ow G o f :: WC G σ) (eqp (some (.int k5)) (ow G o f' :: w'))) (hRH : rH.frames + 1 ≤ 11 ∧ 8 + (3 + 11) + rH.locals ≤ 384) (hfH : cells + rH.cells ≤ 601024 ∧ slots + rH.slots ≤ 7293034) (tM : Ct y_M_rule c_M_rule 1 (some .int) rm_M_rule G [.ref (xa τ 0)] (WM G τ) (eqp (some (.int b6)) (WM G (xa τ, qM)))) (c143 : (xi (xa τ, qM) 0 0) = k5) (hk : ¬ k5 = 0) (k : Lb K G [] Q 8 23 [(0, .ref b), (1, .ref (xa σ 0)), (2, .ref (xa τ 0)), (3, .ref o), (4, .int (nI (i + 3)))] [] (ow G o f' :: (w' ++ WM G (xa τ, qM))) (cells + rH.cells) (slots + rH.slots)) : Lb K G [] Q 8 23 [(0, .ref b), (1, .ref (xa σ 0)), (2, .ref (xa τ 0)), (3, .ref o), (4, .int (nI i))] [] (ow G o f :: (WC G σ ++ WM G τ)) cells slots := by
  refine b_iload X d_L_law_23 4 rfl ?_
  refine b_aload_n X d_L_law_25 0 rfl rfl ?_
  refine b_slen X hX hbl d_L_law_26 ?_
  refine b_iconst X (v := 3) d_L_law_27 (by decide) ?_
  refine b_isub X d_L_law_28 ?_
  refine b_icmp_gt X (tgt := 950) d_L_law_29 (by decide) (fun h => absurd h hgo) (fun _ => ?_)
  refine b_aload_n X d_L_law_32 0 rfl rfl ?_
  refine b_iload X d_L_law_33 4 rfl ?_
  refine b_sld X hX hbl i rfl (by omega) hL d_L_law_35 ?_
  refine b_bipush X (v := 31) d_L_law_36 (by decide) ?_
  refine b_iand X d_L_law_38 ?_
  refine Lb.eq (st' := [.int (nI 0)]) rfl (by rw [hcase]) rfl ?_
  refine b_tableIn X (tgt := 124) d_L_law_39 (by decide) (by decide) rfl (by decide) ?_
  refine b_aload_n X d_L_law_124 1 rfl rfl ?_
  refine b_aload_n X d_L_law_125 3 rfl rfl ?_
  refine b_callHM X hnf cfh_L_rule ml_L_69 tH (As := [.ref (xa σ 0), .ref o]) (rest := []) rfl (Nat.le_of_ble_eq_true rfl) hRH hfH rfl rfl d_L_law_126 ?_
  refine b_istore X (lv' := [(0, .ref b), (1, .ref (xa σ 0)), (2, .ref (xa τ 0)), (3, .ref o), (4, .int (nI i)), (5, .int k5)]) d_L_law_129 (by decide) [1, 2, 3, 4, 5, 0] rfl ?_
  refine b_aload_n X d_L_law_131 2 rfl rfl ?_
  refine b_callVM X cf_M_rule ci_M_rule ml_L_74 tM 0 rfl rfl (As := []) (rest := []) rfl (Nat.le_of_ble_eq_true rfl) ⟨Nat.le_of_ble_eq_true rfl, Nat.le_of_ble_eq_true rfl⟩ ⟨rfl, rfl⟩ hfH rfl rfl d_L_law_132 ?_
  refine b_istore X (lv' := [(0, .ref b), (1, .ref (xa σ 0)), (2, .ref (xa τ 0)), (3, .ref o), (4, .int (nI i)), (5, .int k5), (6, .int b6)]) d_L_law_135 (by decide) [1, 2, 3, 4, 5, 6, 0] rfl ?_
  refine b_aload_n X d_L_law_137 2 rfl rfl ?_
  refine b_callVM X cf_M_thrown ci_M_thrown ml_L_75 (ct_M_thrown_ G (xa τ, qM)) 0 rfl rfl (As := []) (rest := []) rfl (Nat.le_of_ble_eq_true rfl) ⟨Nat.le_of_ble_eq_true rfl, Nat.le_of_ble_eq_true rfl⟩ ⟨rfl, rfl⟩ hfH rfl rfl d_L_law_138 ?_
  refine b_iload X d_L_law_141 5 rfl ?_
  refine b_icmp_eq X (tgt := 148) d_L_law_143 (by decide) (fun _ => ?_) (fun h => absurd c143 h)
  refine b_iload X d_L_law_148 5 rfl ?_
  refine b_if_ne X (tgt := 165) d_L_law_150 (by decide) (fun _ => ?_) (fun h => absurd h hk)
  refine b_goto X (tgt := 944) d_L_law_165 (by decide) ?_
  refine b_iinc X (lv' := [(0, .ref b), (1, .ref (xa σ 0)), (2, .ref (xa τ 0)), (3, .ref o), (4, .int (nI (i + 3)))]) d_L_law_944 4 rfl (v := nI (i + 3)) (nI_add i 3) (by decide) [1, 2, 3, 4, 0] rfl ?_
  refine b_goto X (tgt := 23) d_L_law_947 (by decide) ?_
  exact k
theorem lc_1n {K : KX} {G : GG} {Q : State → Prop} {b L : Nat} {xs : Nat → Int32} (X : Bd K G [] "FirstTreesLaw" code 8 ret room_1) (hnf : nf (ks K)) (hX : va_X b L xs (ks K) (ks K).heap) (hbl : b < (ks K).heap.size) (hL : L < 2 ^ 31) (σ τ : St) (o : Nat) (f : Nat → Int64) (i cells slots : Nat) (hgo : ¬ nI L - 3 < nI i) (hi : i + 3 ≤ L) (hcase : xs i &&& 31 = nI 1) (rH : Room) (k5 : Int32) (f' : Nat → Int64) (w' : va_W) (b6 : Int32) (qM : Sq) (tH : CtH y_L_alternative c_L_alternative 4 (some .int) hs_L_alternative rH G [.ref (xa σ 0), .int (xs (i + 1)), .ref o] (ow G o f :: WC G σ) (eqp (some (.int k5)) (ow G o f' :: w'))) (hRH : rH.frames + 1 ≤ 11 ∧ 8 + (4 + 11) + rH.locals ≤ 384) (hfH : cells + rH.cells ≤ 601024 ∧ slots + rH.slots ≤ 7293034) (tM : Ct y_M_alternative c_M_alternative 3 (some .int) rm_M_alternative G [.ref (xa τ 0), .int (xs (i + 1))] (WM G τ) (eqp (some (.int b6)) (WM G (xa τ, qM)))) (c199 : (xi (xa τ, qM) 0 0) = k5) (hk : k5 = 0) (c215 : (f' 0) = (Int32.toInt64 b6)) (k : Lb K G [] Q 8 23 [(0, .ref b), (1, .ref (xa σ 0)), (2, .ref (xa τ 0)), (3, .ref o), (4, .int (nI (i + 3)))] [] (ow G o f' :: (w' ++ WM G (xa τ, qM))) (cells + rH.cells) (slots + rH.slots)) : Lb K G [] Q 8 23 [(0, .ref b), (1, .ref (xa σ 0)), (2, .ref (xa τ 0)), (3, .ref o), (4, .int (nI i))] [] (ow G o f :: (WC G σ ++ WM G τ)) cells slots := by
  refine b_iload X d_L_law_23 4 rfl ?_
  refine b_aload_n X d_L_law_25 0 rfl rfl ?_
  refine b_slen X hX hbl d_L_law_26 ?_
  refine b_iconst X (v := 3) d_L_law_27 (by decide) ?_
  refine b_isub X d_L_law_28 ?_
  refine b_icmp_gt X (tgt := 950) d_L_law_29 (by decide) (fun h => absurd h hgo) (fun _ => ?_)
  refine b_aload_n X d_L_law_32 0 rfl rfl ?_
  refine b_iload X d_L_law_33 4 rfl ?_
  refine b_sld X hX hbl i rfl (by omega) hL d_L_law_35 ?_
  refine b_bipush X (v := 31) d_L_law_36 (by decide) ?_
  refine b_iand X d_L_law_38 ?_
  refine Lb.eq (st' := [.int (nI 1)]) rfl (by rw [hcase]) rfl ?_
  refine b_tableIn X (tgt := 168) d_L_law_39 (by decide) (by decide) rfl (by decide) ?_
  refine b_aload_n X d_L_law_168 1 rfl rfl ?_
  refine b_aload_n X d_L_law_169 0 rfl rfl ?_
  refine b_iload X d_L_law_170 4 rfl ?_
  refine b_iconst X (v := 1) d_L_law_172 (by decide) ?_
  refine b_iadd X d_L_law_173 ?_
  refine b_sld X hX hbl (i + 1) (nI_add i 1) (by omega) hL d_L_law_174 ?_
  refine b_aload_n X d_L_law_175 3 rfl rfl ?_
  refine b_callHM X hnf cfh_L_alternative ml_L_78 tH (As := [.ref (xa σ 0), .int (xs (i + 1)), .ref o]) (rest := []) rfl (Nat.le_of_ble_eq_true rfl) hRH hfH rfl rfl d_L_law_176 ?_
  refine b_istore X (lv' := [(0, .ref b), (1, .ref (xa σ 0)), (2, .ref (xa τ 0)), (3, .ref o), (4, .int (nI i)), (5, .int k5)]) d_L_law_179 (by decide) [1, 2, 3, 4, 5, 0] rfl ?_
  refine b_aload_n X d_L_law_181 2 rfl rfl ?_
  refine b_aload_n X d_L_law_182 0 rfl rfl ?_
  refine b_iload X d_L_law_183 4 rfl ?_
  refine b_iconst X (v := 1) d_L_law_185 (by decide) ?_
  refine b_iadd X d_L_law_186 ?_
  refine b_sld X hX hbl (i + 1) (nI_add i 1) (by omega) hL d_L_law_187 ?_
  refine b_callVM X cf_M_alternative ci_M_alternative ml_L_81 tM 0 rfl rfl (As := [.int (xs (i + 1))]) (rest := []) rfl (Nat.le_of_ble_eq_true rfl) ⟨Nat.le_of_ble_eq_true rfl, Nat.le_of_ble_eq_true rfl⟩ ⟨rfl, rfl⟩ hfH rfl rfl d_L_law_188 ?_
  refine b_istore X (lv' := [(0, .ref b), (1, .ref (xa σ 0)), (2, .ref (xa τ 0)), (3, .ref o), (4, .int (nI i)), (5, .int k5), (6, .int b6)]) d_L_law_191 (by decide) [1, 2, 3, 4, 5, 6, 0] rfl ?_
  refine b_aload_n X d_L_law_193 2 rfl rfl ?_
  refine b_callVM X cf_M_thrown ci_M_thrown ml_L_75 (ct_M_thrown_ G (xa τ, qM)) 0 rfl rfl (As := []) (rest := []) rfl (Nat.le_of_ble_eq_true rfl) ⟨Nat.le_of_ble_eq_true rfl, Nat.le_of_ble_eq_true rfl⟩ ⟨rfl, rfl⟩ hfH rfl rfl d_L_law_194 ?_
  refine b_iload X d_L_law_197 5 rfl ?_
  refine b_icmp_eq X (tgt := 204) d_L_law_199 (by decide) (fun _ => ?_) (fun h => absurd c199 h)
  refine b_iload X d_L_law_204 5 rfl ?_
  refine b_if_ne X (tgt := 221) d_L_law_206 (by decide) (fun h => absurd hk h) (fun _ => ?_)
  refine b_aload_n X d_L_law_209 3 rfl rfl ?_
  refine b_iconst X (v := 0) d_L_law_210 (by decide) ?_
  refine b_lald X 0 rfl (by decide) 0 rfl (by decide) d_L_law_211 ?_
  refine b_iload X d_L_law_212 6 rfl ?_
  refine b_i2l X (v := (Int32.toInt64 b6)) d_L_law_214 rfl ?_
  refine b_l_eq X (tgt := 221) d_L_law_215 d_L_law_216 (by decide) (fun _ => ?_) (fun h => absurd c215 h)
  refine b_goto X (tgt := 944) d_L_law_221 (by decide) ?_
  refine b_iinc X (lv' := [(0, .ref b), (1, .ref (xa σ 0)), (2, .ref (xa τ 0)), (3, .ref o), (4, .int (nI (i + 3)))]) d_L_law_944 4 rfl (v := nI (i + 3)) (nI_add i 3) (by decide) [1, 2, 3, 4, 0] rfl ?_
  refine b_goto X (tgt := 23) d_L_law_947 (by decide) ?_
  exact k
theorem lc_1z {K : KX} {G : GG} {Q : State → Prop} {b L : Nat} {xs : Nat → Int32} (X : Bd K G [] "FirstTreesLaw" code 8 ret room_1) (hnf : nf (ks K)) (hX : va_X b L xs (ks K) (ks K).heap) (hbl : b < (ks K).heap.size) (hL : L < 2 ^ 31) (σ τ : St) (o : Nat) (f : Nat → Int64) (i cells slots : Nat) (hgo : ¬ nI L - 3 < nI i) (hi : i + 3 ≤ L) (hcase : xs i &&& 31 = nI 1) (rH : Room) (k5 : Int32) (f' : Nat → Int64) (w' : va_W) (b6 : Int32) (qM : Sq) (tH : CtH y_L_alternative c_L_alternative 4 (some .int) hs_L_alternative rH G [.ref (xa σ 0), .int (xs (i + 1)), .ref o] (ow G o f :: WC G σ) (eqp (some (.int k5)) (ow G o f' :: w'))) (hRH : rH.frames + 1 ≤ 11 ∧ 8 + (4 + 11) + rH.locals ≤ 384) (hfH : cells + rH.cells ≤ 601024 ∧ slots + rH.slots ≤ 7293034) (tM : Ct y_M_alternative c_M_alternative 3 (some .int) rm_M_alternative G [.ref (xa τ 0), .int (xs (i + 1))] (WM G τ) (eqp (some (.int b6)) (WM G (xa τ, qM)))) (c199 : (xi (xa τ, qM) 0 0) = k5) (hk : ¬ k5 = 0) (k : Lb K G [] Q 8 23 [(0, .ref b), (1, .ref (xa σ 0)), (2, .ref (xa τ 0)), (3, .ref o), (4, .int (nI (i + 3)))] [] (ow G o f' :: (w' ++ WM G (xa τ, qM))) (cells + rH.cells) (slots + rH.slots)) : Lb K G [] Q 8 23 [(0, .ref b), (1, .ref (xa σ 0)), (2, .ref (xa τ 0)), (3, .ref o), (4, .int (nI i))] [] (ow G o f :: (WC G σ ++ WM G τ)) cells slots := by
  refine b_iload X d_L_law_23 4 rfl ?_
  refine b_aload_n X d_L_law_25 0 rfl rfl ?_
  refine b_slen X hX hbl d_L_law_26 ?_
  refine b_iconst X (v := 3) d_L_law_27 (by decide) ?_
  refine b_isub X d_L_law_28 ?_
  refine b_icmp_gt X (tgt := 950) d_L_law_29 (by decide) (fun h => absurd h hgo) (fun _ => ?_)
  refine b_aload_n X d_L_law_32 0 rfl rfl ?_
  refine b_iload X d_L_law_33 4 rfl ?_
  refine b_sld X hX hbl i rfl (by omega) hL d_L_law_35 ?_
  refine b_bipush X (v := 31) d_L_law_36 (by decide) ?_
  refine b_iand X d_L_law_38 ?_
  refine Lb.eq (st' := [.int (nI 1)]) rfl (by rw [hcase]) rfl ?_
  refine b_tableIn X (tgt := 168) d_L_law_39 (by decide) (by decide) rfl (by decide) ?_
  refine b_aload_n X d_L_law_168 1 rfl rfl ?_
  refine b_aload_n X d_L_law_169 0 rfl rfl ?_
  refine b_iload X d_L_law_170 4 rfl ?_
  refine b_iconst X (v := 1) d_L_law_172 (by decide) ?_
  refine b_iadd X d_L_law_173 ?_
  refine b_sld X hX hbl (i + 1) (nI_add i 1) (by omega) hL d_L_law_174 ?_
  refine b_aload_n X d_L_law_175 3 rfl rfl ?_
  refine b_callHM X hnf cfh_L_alternative ml_L_78 tH (As := [.ref (xa σ 0), .int (xs (i + 1)), .ref o]) (rest := []) rfl (Nat.le_of_ble_eq_true rfl) hRH hfH rfl rfl d_L_law_176 ?_
  refine b_istore X (lv' := [(0, .ref b), (1, .ref (xa σ 0)), (2, .ref (xa τ 0)), (3, .ref o), (4, .int (nI i)), (5, .int k5)]) d_L_law_179 (by decide) [1, 2, 3, 4, 5, 0] rfl ?_
  refine b_aload_n X d_L_law_181 2 rfl rfl ?_
  refine b_aload_n X d_L_law_182 0 rfl rfl ?_
  refine b_iload X d_L_law_183 4 rfl ?_
  refine b_iconst X (v := 1) d_L_law_185 (by decide) ?_
  refine b_iadd X d_L_law_186 ?_
  refine b_sld X hX hbl (i + 1) (nI_add i 1) (by omega) hL d_L_law_187 ?_
  refine b_callVM X cf_M_alternative ci_M_alternative ml_L_81 tM 0 rfl rfl (As := [.int (xs (i + 1))]) (rest := []) rfl (Nat.le_of_ble_eq_true rfl) ⟨Nat.le_of_ble_eq_true rfl, Nat.le_of_ble_eq_true rfl⟩ ⟨rfl, rfl⟩ hfH rfl rfl d_L_law_188 ?_
  refine b_istore X (lv' := [(0, .ref b), (1, .ref (xa σ 0)), (2, .ref (xa τ 0)), (3, .ref o), (4, .int (nI i)), (5, .int k5), (6, .int b6)]) d_L_law_191 (by decide) [1, 2, 3, 4, 5, 6, 0] rfl ?_
  refine b_aload_n X d_L_law_193 2 rfl rfl ?_
  refine b_callVM X cf_M_thrown ci_M_thrown ml_L_75 (ct_M_thrown_ G (xa τ, qM)) 0 rfl rfl (As := []) (rest := []) rfl (Nat.le_of_ble_eq_true rfl) ⟨Nat.le_of_ble_eq_true rfl, Nat.le_of_ble_eq_true rfl⟩ ⟨rfl, rfl⟩ hfH rfl rfl d_L_law_194 ?_
  refine b_iload X d_L_law_197 5 rfl ?_
  refine b_icmp_eq X (tgt := 204) d_L_law_199 (by decide) (fun _ => ?_) (fun h => absurd c199 h)
  refine b_iload X d_L_law_204 5 rfl ?_
  refine b_if_ne X (tgt := 221) d_L_law_206 (by decide) (fun _ => ?_) (fun h => absurd h hk)
  refine b_goto X (tgt := 944) d_L_law_221 (by decide) ?_
  refine b_iinc X (lv' := [(0, .ref b), (1, .ref (xa σ 0)), (2, .ref (xa τ 0)), (3, .ref o), (4, .int (nI (i + 3)))]) d_L_law_944 4 rfl (v := nI (i + 3)) (nI_add i 3) (by decide) [1, 2, 3, 4, 0] rfl ?_
  refine b_goto X (tgt := 23) d_L_law_947 (by decide) ?_
  exact k
theorem lc_2n {K : KX} {G : GG} {Q : State → Prop} {b L : Nat} {xs : Nat → Int32} (X : Bd K G [] "FirstTreesLaw" code 8 ret room_1) (hnf : nf (ks K)) (hX : va_X b L xs (ks K) (ks K).heap) (hbl : b < (ks K).heap.size) (hL : L < 2 ^ 31) (σ τ : St) (o : Nat) (f : Nat → Int64) (i cells slots : Nat) (hgo : ¬ nI L - 3 < nI i) (hi : i + 3 ≤ L) (hcase : xs i &&& 31 = nI 2) (rH : Room) (k5 : Int32) (f' : Nat → Int64) (w' : va_W) (b6 : Int32) (qM : Sq) (tH : CtH y_L_symbol c_L_symbol 5 (some .int) hs_L_symbol rH G [.ref (xa σ 0), .int (xs (i + 1)), .int (xs (i + 2)), .ref o] (ow G o f :: WC G σ) (eqp (some (.int k5)) (ow G o f' :: w'))) (hRH : rH.frames + 1 ≤ 11 ∧ 8 + (5 + 11) + rH.locals ≤ 384) (hfH : cells + rH.cells ≤ 601024 ∧ slots + rH.slots ≤ 7293034) (tM : Ct y_M_symbol c_M_symbol 4 (some .int) rm_M_symbol G [.ref (xa τ 0), .int (xs (i + 1)), .int (xs (i + 2))] (WM G τ) (eqp (some (.int b6)) (WM G (xa τ, qM)))) (c267 : (xi (xa τ, qM) 0 0) = k5) (hk : k5 = 0) (c283 : (f' 0) = (Int32.toInt64 b6)) (k : Lb K G [] Q 8 23 [(0, .ref b), (1, .ref (xa σ 0)), (2, .ref (xa τ 0)), (3, .ref o), (4, .int (nI (i + 3)))] [] (ow G o f' :: (w' ++ WM G (xa τ, qM))) (cells + rH.cells) (slots + rH.slots)) : Lb K G [] Q 8 23 [(0, .ref b), (1, .ref (xa σ 0)), (2, .ref (xa τ 0)), (3, .ref o), (4, .int (nI i))] [] (ow G o f :: (WC G σ ++ WM G τ)) cells slots := by
  refine b_iload X d_L_law_23 4 rfl ?_
  refine b_aload_n X d_L_law_25 0 rfl rfl ?_
  refine b_slen X hX hbl d_L_law_26 ?_
  refine b_iconst X (v := 3) d_L_law_27 (by decide) ?_
  refine b_isub X d_L_law_28 ?_
  refine b_icmp_gt X (tgt := 950) d_L_law_29 (by decide) (fun h => absurd h hgo) (fun _ => ?_)
  refine b_aload_n X d_L_law_32 0 rfl rfl ?_
  refine b_iload X d_L_law_33 4 rfl ?_
  refine b_sld X hX hbl i rfl (by omega) hL d_L_law_35 ?_
  refine b_bipush X (v := 31) d_L_law_36 (by decide) ?_
  refine b_iand X d_L_law_38 ?_
  refine Lb.eq (st' := [.int (nI 2)]) rfl (by rw [hcase]) rfl ?_
  refine b_tableIn X (tgt := 224) d_L_law_39 (by decide) (by decide) rfl (by decide) ?_
  refine b_aload_n X d_L_law_224 1 rfl rfl ?_
  refine b_aload_n X d_L_law_225 0 rfl rfl ?_
  refine b_iload X d_L_law_226 4 rfl ?_
  refine b_iconst X (v := 1) d_L_law_228 (by decide) ?_
  refine b_iadd X d_L_law_229 ?_
  refine b_sld X hX hbl (i + 1) (nI_add i 1) (by omega) hL d_L_law_230 ?_
  refine b_aload_n X d_L_law_231 0 rfl rfl ?_
  refine b_iload X d_L_law_232 4 rfl ?_
  refine b_iconst X (v := 2) d_L_law_234 (by decide) ?_
  refine b_iadd X d_L_law_235 ?_
  refine b_sld X hX hbl (i + 2) (nI_add i 2) (by omega) hL d_L_law_236 ?_
  refine b_aload_n X d_L_law_237 3 rfl rfl ?_
  refine b_callHM X hnf cfh_L_symbol ml_L_82 tH (As := [.ref (xa σ 0), .int (xs (i + 1)), .int (xs (i + 2)), .ref o]) (rest := []) rfl (Nat.le_of_ble_eq_true rfl) hRH hfH rfl rfl d_L_law_238 ?_
  refine b_istore X (lv' := [(0, .ref b), (1, .ref (xa σ 0)), (2, .ref (xa τ 0)), (3, .ref o), (4, .int (nI i)), (5, .int k5)]) d_L_law_241 (by decide) [1, 2, 3, 4, 5, 0] rfl ?_
  refine b_aload_n X d_L_law_243 2 rfl rfl ?_
  refine b_aload_n X d_L_law_244 0 rfl rfl ?_
  refine b_iload X d_L_law_245 4 rfl ?_
  refine b_iconst X (v := 1) d_L_law_247 (by decide) ?_
  refine b_iadd X d_L_law_248 ?_
  refine b_sld X hX hbl (i + 1) (nI_add i 1) (by omega) hL d_L_law_249 ?_
  refine b_aload_n X d_L_law_250 0 rfl rfl ?_
  refine b_iload X d_L_law_251 4 rfl ?_
  refine b_iconst X (v := 2) d_L_law_253 (by decide) ?_
  refine b_iadd X d_L_law_254 ?_
  refine b_sld X hX hbl (i + 2) (nI_add i 2) (by omega) hL d_L_law_255 ?_
  refine b_callVM X cf_M_symbol ci_M_symbol ml_L_85 tM 0 rfl rfl (As := [.int (xs (i + 1)), .int (xs (i + 2))]) (rest := []) rfl (Nat.le_of_ble_eq_true rfl) ⟨Nat.le_of_ble_eq_true rfl, Nat.le_of_ble_eq_true rfl⟩ ⟨rfl, rfl⟩ hfH rfl rfl d_L_law_256 ?_
  refine b_istore X (lv' := [(0, .ref b), (1, .ref (xa σ 0)), (2, .ref (xa τ 0)), (3, .ref o), (4, .int (nI i)), (5, .int k5), (6, .int b6)]) d_L_law_259 (by decide) [1, 2, 3, 4, 5, 6, 0] rfl ?_
  refine b_aload_n X d_L_law_261 2 rfl rfl ?_
  refine b_callVM X cf_M_thrown ci_M_thrown ml_L_75 (ct_M_thrown_ G (xa τ, qM)) 0 rfl rfl (As := []) (rest := []) rfl (Nat.le_of_ble_eq_true rfl) ⟨Nat.le_of_ble_eq_true rfl, Nat.le_of_ble_eq_true rfl⟩ ⟨rfl, rfl⟩ hfH rfl rfl d_L_law_262 ?_
  refine b_iload X d_L_law_265 5 rfl ?_
  refine b_icmp_eq X (tgt := 272) d_L_law_267 (by decide) (fun _ => ?_) (fun h => absurd c267 h)
  refine b_iload X d_L_law_272 5 rfl ?_
  refine b_if_ne X (tgt := 289) d_L_law_274 (by decide) (fun h => absurd hk h) (fun _ => ?_)
  refine b_aload_n X d_L_law_277 3 rfl rfl ?_
  refine b_iconst X (v := 0) d_L_law_278 (by decide) ?_
  refine b_lald X 0 rfl (by decide) 0 rfl (by decide) d_L_law_279 ?_
  refine b_iload X d_L_law_280 6 rfl ?_
  refine b_i2l X (v := (Int32.toInt64 b6)) d_L_law_282 rfl ?_
  refine b_l_eq X (tgt := 289) d_L_law_283 d_L_law_284 (by decide) (fun _ => ?_) (fun h => absurd c283 h)
  refine b_goto X (tgt := 944) d_L_law_289 (by decide) ?_
  refine b_iinc X (lv' := [(0, .ref b), (1, .ref (xa σ 0)), (2, .ref (xa τ 0)), (3, .ref o), (4, .int (nI (i + 3)))]) d_L_law_944 4 rfl (v := nI (i + 3)) (nI_add i 3) (by decide) [1, 2, 3, 4, 0] rfl ?_
  refine b_goto X (tgt := 23) d_L_law_947 (by decide) ?_
  exact k
theorem lc_2z {K : KX} {G : GG} {Q : State → Prop} {b L : Nat} {xs : Nat → Int32} (X : Bd K G [] "FirstTreesLaw" code 8 ret room_1) (hnf : nf (ks K)) (hX : va_X b L xs (ks K) (ks K).heap) (hbl : b < (ks K).heap.size) (hL : L < 2 ^ 31) (σ τ : St) (o : Nat) (f : Nat → Int64) (i cells slots : Nat) (hgo : ¬ nI L - 3 < nI i) (hi : i + 3 ≤ L) (hcase : xs i &&& 31 = nI 2) (rH : Room) (k5 : Int32) (f' : Nat → Int64) (w' : va_W) (b6 : Int32) (qM : Sq) (tH : CtH y_L_symbol c_L_symbol 5 (some .int) hs_L_symbol rH G [.ref (xa σ 0), .int (xs (i + 1)), .int (xs (i + 2)), .ref o] (ow G o f :: WC G σ) (eqp (some (.int k5)) (ow G o f' :: w'))) (hRH : rH.frames + 1 ≤ 11 ∧ 8 + (5 + 11) + rH.locals ≤ 384) (hfH : cells + rH.cells ≤ 601024 ∧ slots + rH.slots ≤ 7293034) (tM : Ct y_M_symbol c_M_symbol 4 (some .int) rm_M_symbol G [.ref (xa τ 0), .int (xs (i + 1)), .int (xs (i + 2))] (WM G τ) (eqp (some (.int b6)) (WM G (xa τ, qM)))) (c267 : (xi (xa τ, qM) 0 0) = k5) (hk : ¬ k5 = 0) (k : Lb K G [] Q 8 23 [(0, .ref b), (1, .ref (xa σ 0)), (2, .ref (xa τ 0)), (3, .ref o), (4, .int (nI (i + 3)))] [] (ow G o f' :: (w' ++ WM G (xa τ, qM))) (cells + rH.cells) (slots + rH.slots)) : Lb K G [] Q 8 23 [(0, .ref b), (1, .ref (xa σ 0)), (2, .ref (xa τ 0)), (3, .ref o), (4, .int (nI i))] [] (ow G o f :: (WC G σ ++ WM G τ)) cells slots := by
  refine b_iload X d_L_law_23 4 rfl ?_
  refine b_aload_n X d_L_law_25 0 rfl rfl ?_
  refine b_slen X hX hbl d_L_law_26 ?_
  refine b_iconst X (v := 3) d_L_law_27 (by decide) ?_
  refine b_isub X d_L_law_28 ?_
  refine b_icmp_gt X (tgt := 950) d_L_law_29 (by decide) (fun h => absurd h hgo) (fun _ => ?_)
  refine b_aload_n X d_L_law_32 0 rfl rfl ?_
  refine b_iload X d_L_law_33 4 rfl ?_
  refine b_sld X hX hbl i rfl (by omega) hL d_L_law_35 ?_
  refine b_bipush X (v := 31) d_L_law_36 (by decide) ?_
  refine b_iand X d_L_law_38 ?_
  refine Lb.eq (st' := [.int (nI 2)]) rfl (by rw [hcase]) rfl ?_
  refine b_tableIn X (tgt := 224) d_L_law_39 (by decide) (by decide) rfl (by decide) ?_
  refine b_aload_n X d_L_law_224 1 rfl rfl ?_
  refine b_aload_n X d_L_law_225 0 rfl rfl ?_
  refine b_iload X d_L_law_226 4 rfl ?_
  refine b_iconst X (v := 1) d_L_law_228 (by decide) ?_
  refine b_iadd X d_L_law_229 ?_
  refine b_sld X hX hbl (i + 1) (nI_add i 1) (by omega) hL d_L_law_230 ?_
  refine b_aload_n X d_L_law_231 0 rfl rfl ?_
  refine b_iload X d_L_law_232 4 rfl ?_
  refine b_iconst X (v := 2) d_L_law_234 (by decide) ?_
  refine b_iadd X d_L_law_235 ?_
  refine b_sld X hX hbl (i + 2) (nI_add i 2) (by omega) hL d_L_law_236 ?_
  refine b_aload_n X d_L_law_237 3 rfl rfl ?_
  refine b_callHM X hnf cfh_L_symbol ml_L_82 tH (As := [.ref (xa σ 0), .int (xs (i + 1)), .int (xs (i + 2)), .ref o]) (rest := []) rfl (Nat.le_of_ble_eq_true rfl) hRH hfH rfl rfl d_L_law_238 ?_
  refine b_istore X (lv' := [(0, .ref b), (1, .ref (xa σ 0)), (2, .ref (xa τ 0)), (3, .ref o), (4, .int (nI i)), (5, .int k5)]) d_L_law_241 (by decide) [1, 2, 3, 4, 5, 0] rfl ?_
  refine b_aload_n X d_L_law_243 2 rfl rfl ?_
  refine b_aload_n X d_L_law_244 0 rfl rfl ?_
  refine b_iload X d_L_law_245 4 rfl ?_
  refine b_iconst X (v := 1) d_L_law_247 (by decide) ?_
  refine b_iadd X d_L_law_248 ?_
  refine b_sld X hX hbl (i + 1) (nI_add i 1) (by omega) hL d_L_law_249 ?_
  refine b_aload_n X d_L_law_250 0 rfl rfl ?_
  refine b_iload X d_L_law_251 4 rfl ?_
  refine b_iconst X (v := 2) d_L_law_253 (by decide) ?_
  refine b_iadd X d_L_law_254 ?_
  refine b_sld X hX hbl (i + 2) (nI_add i 2) (by omega) hL d_L_law_255 ?_
  refine b_callVM X cf_M_symbol ci_M_symbol ml_L_85 tM 0 rfl rfl (As := [.int (xs (i + 1)), .int (xs (i + 2))]) (rest := []) rfl (Nat.le_of_ble_eq_true rfl) ⟨Nat.le_of_ble_eq_true rfl, Nat.le_of_ble_eq_true rfl⟩ ⟨rfl, rfl⟩ hfH rfl rfl d_L_law_256 ?_
  refine b_istore X (lv' := [(0, .ref b), (1, .ref (xa σ 0)), (2, .ref (xa τ 0)), (3, .ref o), (4, .int (nI i)), (5, .int k5), (6, .int b6)]) d_L_law_259 (by decide) [1, 2, 3, 4, 5, 6, 0] rfl ?_
  refine b_aload_n X d_L_law_261 2 rfl rfl ?_
  refine b_callVM X cf_M_thrown ci_M_thrown ml_L_75 (ct_M_thrown_ G (xa τ, qM)) 0 rfl rfl (As := []) (rest := []) rfl (Nat.le_of_ble_eq_true rfl) ⟨Nat.le_of_ble_eq_true rfl, Nat.le_of_ble_eq_true rfl⟩ ⟨rfl, rfl⟩ hfH rfl rfl d_L_law_262 ?_
  refine b_iload X d_L_law_265 5 rfl ?_
  refine b_icmp_eq X (tgt := 272) d_L_law_267 (by decide) (fun _ => ?_) (fun h => absurd c267 h)
  refine b_iload X d_L_law_272 5 rfl ?_
  refine b_if_ne X (tgt := 289) d_L_law_274 (by decide) (fun _ => ?_) (fun h => absurd h hk)
  refine b_goto X (tgt := 944) d_L_law_289 (by decide) ?_
  refine b_iinc X (lv' := [(0, .ref b), (1, .ref (xa σ 0)), (2, .ref (xa τ 0)), (3, .ref o), (4, .int (nI (i + 3)))]) d_L_law_944 4 rfl (v := nI (i + 3)) (nI_add i 3) (by decide) [1, 2, 3, 4, 0] rfl ?_
  refine b_goto X (tgt := 23) d_L_law_947 (by decide) ?_
  exact k
theorem lc_3 {K : KX} {G : GG} {Q : State → Prop} {b L : Nat} {xs : Nat → Int32} (X : Bd K G [] "FirstTreesLaw" code 8 ret room_1) (hnf : nf (ks K)) (hX : va_X b L xs (ks K) (ks K).heap) (hbl : b < (ks K).heap.size) (hL : L < 2 ^ 31) (σ τ : St) (o : Nat) (f : Nat → Int64) (i cells slots : Nat) (hgo : ¬ nI L - 3 < nI i) (hi : i + 3 ≤ L) (hcase : xs i &&& 31 = nI 3) (b5 : Int32) (w' : va_W) (b6 : Int32) (qM : Sq) (hfC : cells ≤ 601024 ∧ slots ≤ 7293034) (tC : Ct y_F_clear c_F_clear 1 (some .int) rm_F_clear G [.ref (xa σ 0)] (WC G σ) (eqp (some (.int b5)) w')) (tM : Ct y_M_clear c_M_clear 2 (some .int) rm_M_clear G [.ref (xa τ 0)] (WM G τ) (eqp (some (.int b6)) (WM G (xa τ, qM)))) (c300 : b5 = b6) (k : Lb K G [] Q 8 23 [(0, .ref b), (1, .ref (xa σ 0)), (2, .ref (xa τ 0)), (3, .ref o), (4, .int (nI (i + 3)))] [] (ow G o f :: (w' ++ WM G (xa τ, qM))) cells slots) : Lb K G [] Q 8 23 [(0, .ref b), (1, .ref (xa σ 0)), (2, .ref (xa τ 0)), (3, .ref o), (4, .int (nI i))] [] (ow G o f :: (WC G σ ++ WM G τ)) cells slots := by
  refine b_iload X d_L_law_23 4 rfl ?_
  refine b_aload_n X d_L_law_25 0 rfl rfl ?_
  refine b_slen X hX hbl d_L_law_26 ?_
  refine b_iconst X (v := 3) d_L_law_27 (by decide) ?_
  refine b_isub X d_L_law_28 ?_
  refine b_icmp_gt X (tgt := 950) d_L_law_29 (by decide) (fun h => absurd h hgo) (fun _ => ?_)
  refine b_aload_n X d_L_law_32 0 rfl rfl ?_
  refine b_iload X d_L_law_33 4 rfl ?_
  refine b_sld X hX hbl i rfl (by omega) hL d_L_law_35 ?_
  refine b_bipush X (v := 31) d_L_law_36 (by decide) ?_
  refine b_iand X d_L_law_38 ?_
  refine Lb.eq (st' := [.int (nI 3)]) rfl (by rw [hcase]) rfl ?_
  refine b_tableIn X (tgt := 292) d_L_law_39 (by decide) (by decide) rfl (by decide) ?_
  refine b_aload_n X d_L_law_292 1 rfl rfl ?_
  refine b_callVC X cf_F_clear ci_F_clear ml_L_86 tC 0 rfl rfl (As := []) (rest := []) rfl (Nat.le_of_ble_eq_true rfl) ⟨Nat.le_of_ble_eq_true rfl, Nat.le_of_ble_eq_true rfl⟩ ⟨rfl, rfl⟩ hfC rfl rfl d_L_law_293 ?_
  refine b_aload_n X d_L_law_296 2 rfl rfl ?_
  refine b_callVM X cf_M_clear ci_M_clear ml_L_89 tM 0 rfl rfl (As := []) (rest := [.int b5]) rfl (Nat.le_of_ble_eq_true rfl) ⟨Nat.le_of_ble_eq_true rfl, Nat.le_of_ble_eq_true rfl⟩ ⟨rfl, rfl⟩ hfC rfl rfl d_L_law_297 ?_
  refine b_icmp_eq X (tgt := 944) d_L_law_300 (by decide) (fun _ => ?_) (fun h => absurd c300 h)
  refine b_iinc X (lv' := [(0, .ref b), (1, .ref (xa σ 0)), (2, .ref (xa τ 0)), (3, .ref o), (4, .int (nI (i + 3)))]) d_L_law_944 4 rfl (v := nI (i + 3)) (nI_add i 3) (by decide) [1, 2, 3, 4, 0] rfl ?_
  refine b_goto X (tgt := 23) d_L_law_947 (by decide) ?_
  exact k
theorem lc_4 {K : KX} {G : GG} {Q : State → Prop} {b L : Nat} {xs : Nat → Int32} (X : Bd K G [] "FirstTreesLaw" code 8 ret room_1) (hnf : nf (ks K)) (hX : va_X b L xs (ks K) (ks K).heap) (hbl : b < (ks K).heap.size) (hL : L < 2 ^ 31) (σ τ : St) (o : Nat) (f : Nat → Int64) (i cells slots : Nat) (hgo : ¬ nI L - 3 < nI i) (hi : i + 3 ≤ L) (hcase : xs i &&& 31 = nI 4) (b5 : Int32) (w' : va_W) (b6 : Int32) (qM : Sq) (hfC : cells ≤ 601024 ∧ slots ≤ 7293034) (tC : Ct y_F_fault c_F_fault 1 (some .int) rm_F_fault G [.ref (xa σ 0)] (WC G σ) (eqp (some (.int b5)) w')) (tM : Ct y_M_fault c_M_fault 1 (some .int) rm_M_fault G [.ref (xa τ 0)] (WM G τ) (eqp (some (.int b6)) (WM G (xa τ, qM)))) (c313 : b5 = b6) (k : Lb K G [] Q 8 23 [(0, .ref b), (1, .ref (xa σ 0)), (2, .ref (xa τ 0)), (3, .ref o), (4, .int (nI (i + 3)))] [] (ow G o f :: (w' ++ WM G (xa τ, qM))) cells slots) : Lb K G [] Q 8 23 [(0, .ref b), (1, .ref (xa σ 0)), (2, .ref (xa τ 0)), (3, .ref o), (4, .int (nI i))] [] (ow G o f :: (WC G σ ++ WM G τ)) cells slots := by
  refine b_iload X d_L_law_23 4 rfl ?_
  refine b_aload_n X d_L_law_25 0 rfl rfl ?_
  refine b_slen X hX hbl d_L_law_26 ?_
  refine b_iconst X (v := 3) d_L_law_27 (by decide) ?_
  refine b_isub X d_L_law_28 ?_
  refine b_icmp_gt X (tgt := 950) d_L_law_29 (by decide) (fun h => absurd h hgo) (fun _ => ?_)
  refine b_aload_n X d_L_law_32 0 rfl rfl ?_
  refine b_iload X d_L_law_33 4 rfl ?_
  refine b_sld X hX hbl i rfl (by omega) hL d_L_law_35 ?_
  refine b_bipush X (v := 31) d_L_law_36 (by decide) ?_
  refine b_iand X d_L_law_38 ?_
  refine Lb.eq (st' := [.int (nI 4)]) rfl (by rw [hcase]) rfl ?_
  refine b_tableIn X (tgt := 305) d_L_law_39 (by decide) (by decide) rfl (by decide) ?_
  refine b_aload_n X d_L_law_305 1 rfl rfl ?_
  refine b_callVC X cf_F_fault ci_F_fault ml_L_90 tC 0 rfl rfl (As := []) (rest := []) rfl (Nat.le_of_ble_eq_true rfl) ⟨Nat.le_of_ble_eq_true rfl, Nat.le_of_ble_eq_true rfl⟩ ⟨rfl, rfl⟩ hfC rfl rfl d_L_law_306 ?_
  refine b_aload_n X d_L_law_309 2 rfl rfl ?_
  refine b_callVM X cf_M_fault ci_M_fault ml_L_93 tM 0 rfl rfl (As := []) (rest := [.int b5]) rfl (Nat.le_of_ble_eq_true rfl) ⟨Nat.le_of_ble_eq_true rfl, Nat.le_of_ble_eq_true rfl⟩ ⟨rfl, rfl⟩ hfC rfl rfl d_L_law_310 ?_
  refine b_icmp_eq X (tgt := 944) d_L_law_313 (by decide) (fun _ => ?_) (fun h => absurd c313 h)
  refine b_iinc X (lv' := [(0, .ref b), (1, .ref (xa σ 0)), (2, .ref (xa τ 0)), (3, .ref o), (4, .int (nI (i + 3)))]) d_L_law_944 4 rfl (v := nI (i + 3)) (nI_add i 3) (by decide) [1, 2, 3, 4, 0] rfl ?_
  refine b_goto X (tgt := 23) d_L_law_947 (by decide) ?_
  exact k
theorem lc_5 {K : KX} {G : GG} {Q : State → Prop} {b L : Nat} {xs : Nat → Int32} (X : Bd K G [] "FirstTreesLaw" code 8 ret room_1) (hnf : nf (ks K)) (hX : va_X b L xs (ks K) (ks K).heap) (hbl : b < (ks K).heap.size) (hL : L < 2 ^ 31) (σ τ : St) (o : Nat) (f : Nat → Int64) (i cells slots : Nat) (hgo : ¬ nI L - 3 < nI i) (hi : i + 3 ≤ L) (hcase : xs i &&& 31 = nI 5) (b5 : Int32) (w' : va_W) (b6 : Int32) (qM : Sq) (hfC : cells ≤ 601024 ∧ slots ≤ 7293034) (tC : Ct y_F_faulty c_F_faulty 1 (some .int) rm_F_faulty G [.ref (xa σ 0)] (WC G σ) (eqp (some (.int b5)) w')) (tM : Ct y_M_faulty c_M_faulty 1 (some .int) rm_M_faulty G [.ref (xa τ 0)] (WM G τ) (eqp (some (.int b6)) (WM G (xa τ, qM)))) (c326 : b5 = b6) (k : Lb K G [] Q 8 23 [(0, .ref b), (1, .ref (xa σ 0)), (2, .ref (xa τ 0)), (3, .ref o), (4, .int (nI (i + 3)))] [] (ow G o f :: (w' ++ WM G (xa τ, qM))) cells slots) : Lb K G [] Q 8 23 [(0, .ref b), (1, .ref (xa σ 0)), (2, .ref (xa τ 0)), (3, .ref o), (4, .int (nI i))] [] (ow G o f :: (WC G σ ++ WM G τ)) cells slots := by
  refine b_iload X d_L_law_23 4 rfl ?_
  refine b_aload_n X d_L_law_25 0 rfl rfl ?_
  refine b_slen X hX hbl d_L_law_26 ?_
  refine b_iconst X (v := 3) d_L_law_27 (by decide) ?_
  refine b_isub X d_L_law_28 ?_
  refine b_icmp_gt X (tgt := 950) d_L_law_29 (by decide) (fun h => absurd h hgo) (fun _ => ?_)
  refine b_aload_n X d_L_law_32 0 rfl rfl ?_
  refine b_iload X d_L_law_33 4 rfl ?_
  refine b_sld X hX hbl i rfl (by omega) hL d_L_law_35 ?_
  refine b_bipush X (v := 31) d_L_law_36 (by decide) ?_
  refine b_iand X d_L_law_38 ?_
  refine Lb.eq (st' := [.int (nI 5)]) rfl (by rw [hcase]) rfl ?_
  refine b_tableIn X (tgt := 318) d_L_law_39 (by decide) (by decide) rfl (by decide) ?_
  refine b_aload_n X d_L_law_318 1 rfl rfl ?_
  refine b_callVC X cf_F_faulty ci_F_faulty ml_L_94 tC 0 rfl rfl (As := []) (rest := []) rfl (Nat.le_of_ble_eq_true rfl) ⟨Nat.le_of_ble_eq_true rfl, Nat.le_of_ble_eq_true rfl⟩ ⟨rfl, rfl⟩ hfC rfl rfl d_L_law_319 ?_
  refine b_aload_n X d_L_law_322 2 rfl rfl ?_
  refine b_callVM X cf_M_faulty ci_M_faulty ml_L_97 tM 0 rfl rfl (As := []) (rest := [.int b5]) rfl (Nat.le_of_ble_eq_true rfl) ⟨Nat.le_of_ble_eq_true rfl, Nat.le_of_ble_eq_true rfl⟩ ⟨rfl, rfl⟩ hfC rfl rfl d_L_law_323 ?_
  refine b_icmp_eq X (tgt := 944) d_L_law_326 (by decide) (fun _ => ?_) (fun h => absurd c326 h)
  refine b_iinc X (lv' := [(0, .ref b), (1, .ref (xa σ 0)), (2, .ref (xa τ 0)), (3, .ref o), (4, .int (nI (i + 3)))]) d_L_law_944 4 rfl (v := nI (i + 3)) (nI_add i 3) (by decide) [1, 2, 3, 4, 0] rfl ?_
  refine b_goto X (tgt := 23) d_L_law_947 (by decide) ?_
  exact k
theorem lc_6n {K : KX} {G : GG} {Q : State → Prop} {b L : Nat} {xs : Nat → Int32} (X : Bd K G [] "FirstTreesLaw" code 8 ret room_1) (hnf : nf (ks K)) (hX : va_X b L xs (ks K) (ks K).heap) (hbl : b < (ks K).heap.size) (hL : L < 2 ^ 31) (σ τ : St) (o : Nat) (f : Nat → Int64) (i cells slots : Nat) (hgo : ¬ nI L - 3 < nI i) (hi : i + 3 ≤ L) (hcase : xs i &&& 31 = nI 6) (rH : Room) (k5 : Int32) (f' : Nat → Int64) (w' : va_W) (b6 : Int32) (qM : Sq) (tH : CtH y_L_token c_L_token 4 (some .int) hs_L_token rH G [.ref (xa σ 0), .int (xs (i + 1)), .ref o] (ow G o f :: WC G σ) (eqp (some (.int k5)) (ow G o f' :: w'))) (hRH : rH.frames + 1 ≤ 11 ∧ 8 + (4 + 11) + rH.locals ≤ 384) (hfH : cells + rH.cells ≤ 601024 ∧ slots + rH.slots ≤ 7293034) (tM : Ct y_M_token c_M_token 2 (some .int) rm_M_token G [.ref (xa τ 0), .int (xs (i + 1))] (WM G τ) (eqp (some (.int b6)) (WM G (xa τ, qM)))) (c362 : (xi (xa τ, qM) 0 0) = k5) (hk : k5 = 0) (c378 : (f' 0) = (Int32.toInt64 b6)) (k : Lb K G [] Q 8 23 [(0, .ref b), (1, .ref (xa σ 0)), (2, .ref (xa τ 0)), (3, .ref o), (4, .int (nI (i + 3)))] [] (ow G o f' :: (w' ++ WM G (xa τ, qM))) (cells + rH.cells) (slots + rH.slots)) : Lb K G [] Q 8 23 [(0, .ref b), (1, .ref (xa σ 0)), (2, .ref (xa τ 0)), (3, .ref o), (4, .int (nI i))] [] (ow G o f :: (WC G σ ++ WM G τ)) cells slots := by
  refine b_iload X d_L_law_23 4 rfl ?_
  refine b_aload_n X d_L_law_25 0 rfl rfl ?_
  refine b_slen X hX hbl d_L_law_26 ?_
  refine b_iconst X (v := 3) d_L_law_27 (by decide) ?_
  refine b_isub X d_L_law_28 ?_
  refine b_icmp_gt X (tgt := 950) d_L_law_29 (by decide) (fun h => absurd h hgo) (fun _ => ?_)
  refine b_aload_n X d_L_law_32 0 rfl rfl ?_
  refine b_iload X d_L_law_33 4 rfl ?_
  refine b_sld X hX hbl i rfl (by omega) hL d_L_law_35 ?_
  refine b_bipush X (v := 31) d_L_law_36 (by decide) ?_
  refine b_iand X d_L_law_38 ?_
  refine Lb.eq (st' := [.int (nI 6)]) rfl (by rw [hcase]) rfl ?_
  refine b_tableIn X (tgt := 331) d_L_law_39 (by decide) (by decide) rfl (by decide) ?_
  refine b_aload_n X d_L_law_331 1 rfl rfl ?_
  refine b_aload_n X d_L_law_332 0 rfl rfl ?_
  refine b_iload X d_L_law_333 4 rfl ?_
  refine b_iconst X (v := 1) d_L_law_335 (by decide) ?_
  refine b_iadd X d_L_law_336 ?_
  refine b_sld X hX hbl (i + 1) (nI_add i 1) (by omega) hL d_L_law_337 ?_
  refine b_aload_n X d_L_law_338 3 rfl rfl ?_
  refine b_callHM X hnf cfh_L_token ml_L_98 tH (As := [.ref (xa σ 0), .int (xs (i + 1)), .ref o]) (rest := []) rfl (Nat.le_of_ble_eq_true rfl) hRH hfH rfl rfl d_L_law_339 ?_
  refine b_istore X (lv' := [(0, .ref b), (1, .ref (xa σ 0)), (2, .ref (xa τ 0)), (3, .ref o), (4, .int (nI i)), (5, .int k5)]) d_L_law_342 (by decide) [1, 2, 3, 4, 5, 0] rfl ?_
  refine b_aload_n X d_L_law_344 2 rfl rfl ?_
  refine b_aload_n X d_L_law_345 0 rfl rfl ?_
  refine b_iload X d_L_law_346 4 rfl ?_
  refine b_iconst X (v := 1) d_L_law_348 (by decide) ?_
  refine b_iadd X d_L_law_349 ?_
  refine b_sld X hX hbl (i + 1) (nI_add i 1) (by omega) hL d_L_law_350 ?_
  refine b_callVM X cf_M_token ci_M_token ml_L_100 tM 0 rfl rfl (As := [.int (xs (i + 1))]) (rest := []) rfl (Nat.le_of_ble_eq_true rfl) ⟨Nat.le_of_ble_eq_true rfl, Nat.le_of_ble_eq_true rfl⟩ ⟨rfl, rfl⟩ hfH rfl rfl d_L_law_351 ?_
  refine b_istore X (lv' := [(0, .ref b), (1, .ref (xa σ 0)), (2, .ref (xa τ 0)), (3, .ref o), (4, .int (nI i)), (5, .int k5), (6, .int b6)]) d_L_law_354 (by decide) [1, 2, 3, 4, 5, 6, 0] rfl ?_
  refine b_aload_n X d_L_law_356 2 rfl rfl ?_
  refine b_callVM X cf_M_thrown ci_M_thrown ml_L_75 (ct_M_thrown_ G (xa τ, qM)) 0 rfl rfl (As := []) (rest := []) rfl (Nat.le_of_ble_eq_true rfl) ⟨Nat.le_of_ble_eq_true rfl, Nat.le_of_ble_eq_true rfl⟩ ⟨rfl, rfl⟩ hfH rfl rfl d_L_law_357 ?_
  refine b_iload X d_L_law_360 5 rfl ?_
  refine b_icmp_eq X (tgt := 367) d_L_law_362 (by decide) (fun _ => ?_) (fun h => absurd c362 h)
  refine b_iload X d_L_law_367 5 rfl ?_
  refine b_if_ne X (tgt := 384) d_L_law_369 (by decide) (fun h => absurd hk h) (fun _ => ?_)
  refine b_aload_n X d_L_law_372 3 rfl rfl ?_
  refine b_iconst X (v := 0) d_L_law_373 (by decide) ?_
  refine b_lald X 0 rfl (by decide) 0 rfl (by decide) d_L_law_374 ?_
  refine b_iload X d_L_law_375 6 rfl ?_
  refine b_i2l X (v := (Int32.toInt64 b6)) d_L_law_377 rfl ?_
  refine b_l_eq X (tgt := 384) d_L_law_378 d_L_law_379 (by decide) (fun _ => ?_) (fun h => absurd c378 h)
  refine b_goto X (tgt := 944) d_L_law_384 (by decide) ?_
  refine b_iinc X (lv' := [(0, .ref b), (1, .ref (xa σ 0)), (2, .ref (xa τ 0)), (3, .ref o), (4, .int (nI (i + 3)))]) d_L_law_944 4 rfl (v := nI (i + 3)) (nI_add i 3) (by decide) [1, 2, 3, 4, 0] rfl ?_
  refine b_goto X (tgt := 23) d_L_law_947 (by decide) ?_
  exact k
theorem lc_6z {K : KX} {G : GG} {Q : State → Prop} {b L : Nat} {xs : Nat → Int32} (X : Bd K G [] "FirstTreesLaw" code 8 ret room_1) (hnf : nf (ks K)) (hX : va_X b L xs (ks K) (ks K).heap) (hbl : b < (ks K).heap.size) (hL : L < 2 ^ 31) (σ τ : St) (o : Nat) (f : Nat → Int64) (i cells slots : Nat) (hgo : ¬ nI L - 3 < nI i) (hi : i + 3 ≤ L) (hcase : xs i &&& 31 = nI 6) (rH : Room) (k5 : Int32) (f' : Nat → Int64) (w' : va_W) (b6 : Int32) (qM : Sq) (tH : CtH y_L_token c_L_token 4 (some .int) hs_L_token rH G [.ref (xa σ 0), .int (xs (i + 1)), .ref o] (ow G o f :: WC G σ) (eqp (some (.int k5)) (ow G o f' :: w'))) (hRH : rH.frames + 1 ≤ 11 ∧ 8 + (4 + 11) + rH.locals ≤ 384) (hfH : cells + rH.cells ≤ 601024 ∧ slots + rH.slots ≤ 7293034) (tM : Ct y_M_token c_M_token 2 (some .int) rm_M_token G [.ref (xa τ 0), .int (xs (i + 1))] (WM G τ) (eqp (some (.int b6)) (WM G (xa τ, qM)))) (c362 : (xi (xa τ, qM) 0 0) = k5) (hk : ¬ k5 = 0) (k : Lb K G [] Q 8 23 [(0, .ref b), (1, .ref (xa σ 0)), (2, .ref (xa τ 0)), (3, .ref o), (4, .int (nI (i + 3)))] [] (ow G o f' :: (w' ++ WM G (xa τ, qM))) (cells + rH.cells) (slots + rH.slots)) : Lb K G [] Q 8 23 [(0, .ref b), (1, .ref (xa σ 0)), (2, .ref (xa τ 0)), (3, .ref o), (4, .int (nI i))] [] (ow G o f :: (WC G σ ++ WM G τ)) cells slots := by
  refine b_iload X d_L_law_23 4 rfl ?_
  refine b_aload_n X d_L_law_25 0 rfl rfl ?_
  refine b_slen X hX hbl d_L_law_26 ?_
  refine b_iconst X (v := 3) d_L_law_27 (by decide) ?_
  refine b_isub X d_L_law_28 ?_
  refine b_icmp_gt X (tgt := 950) d_L_law_29 (by decide) (fun h => absurd h hgo) (fun _ => ?_)
  refine b_aload_n X d_L_law_32 0 rfl rfl ?_
  refine b_iload X d_L_law_33 4 rfl ?_
  refine b_sld X hX hbl i rfl (by omega) hL d_L_law_35 ?_
  refine b_bipush X (v := 31) d_L_law_36 (by decide) ?_
  refine b_iand X d_L_law_38 ?_
  refine Lb.eq (st' := [.int (nI 6)]) rfl (by rw [hcase]) rfl ?_
  refine b_tableIn X (tgt := 331) d_L_law_39 (by decide) (by decide) rfl (by decide) ?_
  refine b_aload_n X d_L_law_331 1 rfl rfl ?_
  refine b_aload_n X d_L_law_332 0 rfl rfl ?_
  refine b_iload X d_L_law_333 4 rfl ?_
  refine b_iconst X (v := 1) d_L_law_335 (by decide) ?_
  refine b_iadd X d_L_law_336 ?_
  refine b_sld X hX hbl (i + 1) (nI_add i 1) (by omega) hL d_L_law_337 ?_
  refine b_aload_n X d_L_law_338 3 rfl rfl ?_
  refine b_callHM X hnf cfh_L_token ml_L_98 tH (As := [.ref (xa σ 0), .int (xs (i + 1)), .ref o]) (rest := []) rfl (Nat.le_of_ble_eq_true rfl) hRH hfH rfl rfl d_L_law_339 ?_
  refine b_istore X (lv' := [(0, .ref b), (1, .ref (xa σ 0)), (2, .ref (xa τ 0)), (3, .ref o), (4, .int (nI i)), (5, .int k5)]) d_L_law_342 (by decide) [1, 2, 3, 4, 5, 0] rfl ?_
  refine b_aload_n X d_L_law_344 2 rfl rfl ?_
  refine b_aload_n X d_L_law_345 0 rfl rfl ?_
  refine b_iload X d_L_law_346 4 rfl ?_
  refine b_iconst X (v := 1) d_L_law_348 (by decide) ?_
  refine b_iadd X d_L_law_349 ?_
  refine b_sld X hX hbl (i + 1) (nI_add i 1) (by omega) hL d_L_law_350 ?_
  refine b_callVM X cf_M_token ci_M_token ml_L_100 tM 0 rfl rfl (As := [.int (xs (i + 1))]) (rest := []) rfl (Nat.le_of_ble_eq_true rfl) ⟨Nat.le_of_ble_eq_true rfl, Nat.le_of_ble_eq_true rfl⟩ ⟨rfl, rfl⟩ hfH rfl rfl d_L_law_351 ?_
  refine b_istore X (lv' := [(0, .ref b), (1, .ref (xa σ 0)), (2, .ref (xa τ 0)), (3, .ref o), (4, .int (nI i)), (5, .int k5), (6, .int b6)]) d_L_law_354 (by decide) [1, 2, 3, 4, 5, 6, 0] rfl ?_
  refine b_aload_n X d_L_law_356 2 rfl rfl ?_
  refine b_callVM X cf_M_thrown ci_M_thrown ml_L_75 (ct_M_thrown_ G (xa τ, qM)) 0 rfl rfl (As := []) (rest := []) rfl (Nat.le_of_ble_eq_true rfl) ⟨Nat.le_of_ble_eq_true rfl, Nat.le_of_ble_eq_true rfl⟩ ⟨rfl, rfl⟩ hfH rfl rfl d_L_law_357 ?_
  refine b_iload X d_L_law_360 5 rfl ?_
  refine b_icmp_eq X (tgt := 367) d_L_law_362 (by decide) (fun _ => ?_) (fun h => absurd c362 h)
  refine b_iload X d_L_law_367 5 rfl ?_
  refine b_if_ne X (tgt := 384) d_L_law_369 (by decide) (fun _ => ?_) (fun h => absurd h hk)
  refine b_goto X (tgt := 944) d_L_law_384 (by decide) ?_
  refine b_iinc X (lv' := [(0, .ref b), (1, .ref (xa σ 0)), (2, .ref (xa τ 0)), (3, .ref o), (4, .int (nI (i + 3)))]) d_L_law_944 4 rfl (v := nI (i + 3)) (nI_add i 3) (by decide) [1, 2, 3, 4, 0] rfl ?_
  refine b_goto X (tgt := 23) d_L_law_947 (by decide) ?_
  exact k
theorem lc_7 {K : KX} {G : GG} {Q : State → Prop} {b L : Nat} {xs : Nat → Int32} (X : Bd K G [] "FirstTreesLaw" code 8 ret room_1) (hnf : nf (ks K)) (hX : va_X b L xs (ks K) (ks K).heap) (hbl : b < (ks K).heap.size) (hL : L < 2 ^ 31) (σ τ : St) (o : Nat) (f : Nat → Int64) (i cells slots : Nat) (hgo : ¬ nI L - 3 < nI i) (hi : i + 3 ≤ L) (hcase : xs i &&& 31 = nI 7) (rH : Room) (k5 : Int32) (f' : Nat → Int64) (w' : va_W) (qM : Sq) (tH : CtH y_L_keep c_L_keep 3 (some .int) hs_L_keep rH G [.ref (xa σ 0), .int (xs (i + 1))] (ow G o f :: WC G σ) (eqp (some (.int k5)) (ow G o f' :: w'))) (hRH : rH.frames + 1 ≤ 11 ∧ 8 + (3 + 11) + rH.locals ≤ 384) (hfH : cells + rH.cells ≤ 601024 ∧ slots + rH.slots ≤ 7293034) (tM : Ct y_M_keep c_M_keep 2 none rm_M_keep G [.ref (xa τ 0), .int (xs (i + 1))] (WM G τ) (eqp none (WM G (xa τ, qM)))) (c415 : (xi (xa τ, qM) 0 0) = k5) (k : Lb K G [] Q 8 23 [(0, .ref b), (1, .ref (xa σ 0)), (2, .ref (xa τ 0)), (3, .ref o), (4, .int (nI (i + 3)))] [] (ow G o f' :: (w' ++ WM G (xa τ, qM))) (cells + rH.cells) (slots + rH.slots)) : Lb K G [] Q 8 23 [(0, .ref b), (1, .ref (xa σ 0)), (2, .ref (xa τ 0)), (3, .ref o), (4, .int (nI i))] [] (ow G o f :: (WC G σ ++ WM G τ)) cells slots := by
  refine b_iload X d_L_law_23 4 rfl ?_
  refine b_aload_n X d_L_law_25 0 rfl rfl ?_
  refine b_slen X hX hbl d_L_law_26 ?_
  refine b_iconst X (v := 3) d_L_law_27 (by decide) ?_
  refine b_isub X d_L_law_28 ?_
  refine b_icmp_gt X (tgt := 950) d_L_law_29 (by decide) (fun h => absurd h hgo) (fun _ => ?_)
  refine b_aload_n X d_L_law_32 0 rfl rfl ?_
  refine b_iload X d_L_law_33 4 rfl ?_
  refine b_sld X hX hbl i rfl (by omega) hL d_L_law_35 ?_
  refine b_bipush X (v := 31) d_L_law_36 (by decide) ?_
  refine b_iand X d_L_law_38 ?_
  refine Lb.eq (st' := [.int (nI 7)]) rfl (by rw [hcase]) rfl ?_
  refine b_tableIn X (tgt := 387) d_L_law_39 (by decide) (by decide) rfl (by decide) ?_
  refine b_aload_n X d_L_law_387 1 rfl rfl ?_
  refine b_aload_n X d_L_law_388 0 rfl rfl ?_
  refine b_iload X d_L_law_389 4 rfl ?_
  refine b_iconst X (v := 1) d_L_law_391 (by decide) ?_
  refine b_iadd X d_L_law_392 ?_
  refine b_sld X hX hbl (i + 1) (nI_add i 1) (by omega) hL d_L_law_393 ?_
  refine b_callHM X hnf cfh_L_keep ml_L_101 tH (As := [.ref (xa σ 0), .int (xs (i + 1))]) (rest := []) rfl (Nat.le_of_ble_eq_true rfl) hRH hfH rfl rfl d_L_law_394 ?_
  refine b_istore X (lv' := [(0, .ref b), (1, .ref (xa σ 0)), (2, .ref (xa τ 0)), (3, .ref o), (4, .int (nI i)), (5, .int k5)]) d_L_law_397 (by decide) [1, 2, 3, 4, 5, 0] rfl ?_
  refine b_aload_n X d_L_law_399 2 rfl rfl ?_
  refine b_aload_n X d_L_law_400 0 rfl rfl ?_
  refine b_iload X d_L_law_401 4 rfl ?_
  refine b_iconst X (v := 1) d_L_law_403 (by decide) ?_
  refine b_iadd X d_L_law_404 ?_
  refine b_sld X hX hbl (i + 1) (nI_add i 1) (by omega) hL d_L_law_405 ?_
  refine b_callVM X cf_M_keep ci_M_keep ml_L_104 tM 0 rfl rfl (As := [.int (xs (i + 1))]) (rest := []) rfl (Nat.le_of_ble_eq_true rfl) ⟨Nat.le_of_ble_eq_true rfl, Nat.le_of_ble_eq_true rfl⟩ ⟨rfl, rfl⟩ hfH rfl rfl d_L_law_406 ?_
  refine b_aload_n X d_L_law_409 2 rfl rfl ?_
  refine b_callVM X cf_M_thrown ci_M_thrown ml_L_75 (ct_M_thrown_ G (xa τ, qM)) 0 rfl rfl (As := []) (rest := []) rfl (Nat.le_of_ble_eq_true rfl) ⟨Nat.le_of_ble_eq_true rfl, Nat.le_of_ble_eq_true rfl⟩ ⟨rfl, rfl⟩ hfH rfl rfl d_L_law_410 ?_
  refine b_iload X d_L_law_413 5 rfl ?_
  refine b_icmp_eq X (tgt := 420) d_L_law_415 (by decide) (fun _ => ?_) (fun h => absurd c415 h)
  refine b_goto X (tgt := 944) d_L_law_420 (by decide) ?_
  refine b_iinc X (lv' := [(0, .ref b), (1, .ref (xa σ 0)), (2, .ref (xa τ 0)), (3, .ref o), (4, .int (nI (i + 3)))]) d_L_law_944 4 rfl (v := nI (i + 3)) (nI_add i 3) (by decide) [1, 2, 3, 4, 0] rfl ?_
  refine b_goto X (tgt := 23) d_L_law_947 (by decide) ?_
  exact k
theorem lc_8n {K : KX} {G : GG} {Q : State → Prop} {b L : Nat} {xs : Nat → Int32} (X : Bd K G [] "FirstTreesLaw" code 8 ret room_1) (hnf : nf (ks K)) (hX : va_X b L xs (ks K) (ks K).heap) (hbl : b < (ks K).heap.size) (hL : L < 2 ^ 31) (σ τ : St) (o : Nat) (f : Nat → Int64) (i cells slots : Nat) (hgo : ¬ nI L - 3 < nI i) (hi : i + 3 ≤ L) (hcase : xs i &&& 31 = nI 8) (rH : Room) (k5 : Int32) (f' : Nat → Int64) (w' : va_W) (b6 : Int32) (qM : Sq) (tH : CtH y_L_parse c_L_parse 3 (some .int) hs_L_parse rH G [.ref (xa σ 0), .ref o] (ow G o f :: WC G σ) (eqp (some (.int k5)) (ow G o f' :: w'))) (hRH : rH.frames + 1 ≤ 11 ∧ 8 + (3 + 11) + rH.locals ≤ 384) (hfH : cells + rH.cells ≤ 601024 ∧ slots + rH.slots ≤ 7293034) (tM : Ct y_M_parse c_M_parse 3 (some .int) rm_M_parse G [.ref (xa τ 0)] (WM G τ) (eqp (some (.int b6)) (WM G (xa τ, qM)))) (c442 : (xi (xa τ, qM) 0 0) = k5) (hk : k5 = 0) (c458 : (f' 0) = (Int32.toInt64 b6)) (k : Lb K G [] Q 8 23 [(0, .ref b), (1, .ref (xa σ 0)), (2, .ref (xa τ 0)), (3, .ref o), (4, .int (nI (i + 3)))] [] (ow G o f' :: (w' ++ WM G (xa τ, qM))) (cells + rH.cells) (slots + rH.slots)) : Lb K G [] Q 8 23 [(0, .ref b), (1, .ref (xa σ 0)), (2, .ref (xa τ 0)), (3, .ref o), (4, .int (nI i))] [] (ow G o f :: (WC G σ ++ WM G τ)) cells slots := by
  refine b_iload X d_L_law_23 4 rfl ?_
  refine b_aload_n X d_L_law_25 0 rfl rfl ?_
  refine b_slen X hX hbl d_L_law_26 ?_
  refine b_iconst X (v := 3) d_L_law_27 (by decide) ?_
  refine b_isub X d_L_law_28 ?_
  refine b_icmp_gt X (tgt := 950) d_L_law_29 (by decide) (fun h => absurd h hgo) (fun _ => ?_)
  refine b_aload_n X d_L_law_32 0 rfl rfl ?_
  refine b_iload X d_L_law_33 4 rfl ?_
  refine b_sld X hX hbl i rfl (by omega) hL d_L_law_35 ?_
  refine b_bipush X (v := 31) d_L_law_36 (by decide) ?_
  refine b_iand X d_L_law_38 ?_
  refine Lb.eq (st' := [.int (nI 8)]) rfl (by rw [hcase]) rfl ?_
  refine b_tableIn X (tgt := 423) d_L_law_39 (by decide) (by decide) rfl (by decide) ?_
  refine b_aload_n X d_L_law_423 1 rfl rfl ?_
  refine b_aload_n X d_L_law_424 3 rfl rfl ?_
  refine b_callHM X hnf cfh_L_parse ml_L_105 tH (As := [.ref (xa σ 0), .ref o]) (rest := []) rfl (Nat.le_of_ble_eq_true rfl) hRH hfH rfl rfl d_L_law_425 ?_
  refine b_istore X (lv' := [(0, .ref b), (1, .ref (xa σ 0)), (2, .ref (xa τ 0)), (3, .ref o), (4, .int (nI i)), (5, .int k5)]) d_L_law_428 (by decide) [1, 2, 3, 4, 5, 0] rfl ?_
  refine b_aload_n X d_L_law_430 2 rfl rfl ?_
  refine b_callVM X cf_M_parse ci_M_parse ml_L_107 tM 0 rfl rfl (As := []) (rest := []) rfl (Nat.le_of_ble_eq_true rfl) ⟨Nat.le_of_ble_eq_true rfl, Nat.le_of_ble_eq_true rfl⟩ ⟨rfl, rfl⟩ hfH rfl rfl d_L_law_431 ?_
  refine b_istore X (lv' := [(0, .ref b), (1, .ref (xa σ 0)), (2, .ref (xa τ 0)), (3, .ref o), (4, .int (nI i)), (5, .int k5), (6, .int b6)]) d_L_law_434 (by decide) [1, 2, 3, 4, 5, 6, 0] rfl ?_
  refine b_aload_n X d_L_law_436 2 rfl rfl ?_
  refine b_callVM X cf_M_thrown ci_M_thrown ml_L_75 (ct_M_thrown_ G (xa τ, qM)) 0 rfl rfl (As := []) (rest := []) rfl (Nat.le_of_ble_eq_true rfl) ⟨Nat.le_of_ble_eq_true rfl, Nat.le_of_ble_eq_true rfl⟩ ⟨rfl, rfl⟩ hfH rfl rfl d_L_law_437 ?_
  refine b_iload X d_L_law_440 5 rfl ?_
  refine b_icmp_eq X (tgt := 447) d_L_law_442 (by decide) (fun _ => ?_) (fun h => absurd c442 h)
  refine b_iload X d_L_law_447 5 rfl ?_
  refine b_if_ne X (tgt := 464) d_L_law_449 (by decide) (fun h => absurd hk h) (fun _ => ?_)
  refine b_aload_n X d_L_law_452 3 rfl rfl ?_
  refine b_iconst X (v := 0) d_L_law_453 (by decide) ?_
  refine b_lald X 0 rfl (by decide) 0 rfl (by decide) d_L_law_454 ?_
  refine b_iload X d_L_law_455 6 rfl ?_
  refine b_i2l X (v := (Int32.toInt64 b6)) d_L_law_457 rfl ?_
  refine b_l_eq X (tgt := 464) d_L_law_458 d_L_law_459 (by decide) (fun _ => ?_) (fun h => absurd c458 h)
  refine b_goto X (tgt := 944) d_L_law_464 (by decide) ?_
  refine b_iinc X (lv' := [(0, .ref b), (1, .ref (xa σ 0)), (2, .ref (xa τ 0)), (3, .ref o), (4, .int (nI (i + 3)))]) d_L_law_944 4 rfl (v := nI (i + 3)) (nI_add i 3) (by decide) [1, 2, 3, 4, 0] rfl ?_
  refine b_goto X (tgt := 23) d_L_law_947 (by decide) ?_
  exact k
theorem lc_8z {K : KX} {G : GG} {Q : State → Prop} {b L : Nat} {xs : Nat → Int32} (X : Bd K G [] "FirstTreesLaw" code 8 ret room_1) (hnf : nf (ks K)) (hX : va_X b L xs (ks K) (ks K).heap) (hbl : b < (ks K).heap.size) (hL : L < 2 ^ 31) (σ τ : St) (o : Nat) (f : Nat → Int64) (i cells slots : Nat) (hgo : ¬ nI L - 3 < nI i) (hi : i + 3 ≤ L) (hcase : xs i &&& 31 = nI 8) (rH : Room) (k5 : Int32) (f' : Nat → Int64) (w' : va_W) (b6 : Int32) (qM : Sq) (tH : CtH y_L_parse c_L_parse 3 (some .int) hs_L_parse rH G [.ref (xa σ 0), .ref o] (ow G o f :: WC G σ) (eqp (some (.int k5)) (ow G o f' :: w'))) (hRH : rH.frames + 1 ≤ 11 ∧ 8 + (3 + 11) + rH.locals ≤ 384) (hfH : cells + rH.cells ≤ 601024 ∧ slots + rH.slots ≤ 7293034) (tM : Ct y_M_parse c_M_parse 3 (some .int) rm_M_parse G [.ref (xa τ 0)] (WM G τ) (eqp (some (.int b6)) (WM G (xa τ, qM)))) (c442 : (xi (xa τ, qM) 0 0) = k5) (hk : ¬ k5 = 0) (k : Lb K G [] Q 8 23 [(0, .ref b), (1, .ref (xa σ 0)), (2, .ref (xa τ 0)), (3, .ref o), (4, .int (nI (i + 3)))] [] (ow G o f' :: (w' ++ WM G (xa τ, qM))) (cells + rH.cells) (slots + rH.slots)) : Lb K G [] Q 8 23 [(0, .ref b), (1, .ref (xa σ 0)), (2, .ref (xa τ 0)), (3, .ref o), (4, .int (nI i))] [] (ow G o f :: (WC G σ ++ WM G τ)) cells slots := by
  refine b_iload X d_L_law_23 4 rfl ?_
  refine b_aload_n X d_L_law_25 0 rfl rfl ?_
  refine b_slen X hX hbl d_L_law_26 ?_
  refine b_iconst X (v := 3) d_L_law_27 (by decide) ?_
  refine b_isub X d_L_law_28 ?_
  refine b_icmp_gt X (tgt := 950) d_L_law_29 (by decide) (fun h => absurd h hgo) (fun _ => ?_)
  refine b_aload_n X d_L_law_32 0 rfl rfl ?_
  refine b_iload X d_L_law_33 4 rfl ?_
  refine b_sld X hX hbl i rfl (by omega) hL d_L_law_35 ?_
  refine b_bipush X (v := 31) d_L_law_36 (by decide) ?_
  refine b_iand X d_L_law_38 ?_
  refine Lb.eq (st' := [.int (nI 8)]) rfl (by rw [hcase]) rfl ?_
  refine b_tableIn X (tgt := 423) d_L_law_39 (by decide) (by decide) rfl (by decide) ?_
  refine b_aload_n X d_L_law_423 1 rfl rfl ?_
  refine b_aload_n X d_L_law_424 3 rfl rfl ?_
  refine b_callHM X hnf cfh_L_parse ml_L_105 tH (As := [.ref (xa σ 0), .ref o]) (rest := []) rfl (Nat.le_of_ble_eq_true rfl) hRH hfH rfl rfl d_L_law_425 ?_
  refine b_istore X (lv' := [(0, .ref b), (1, .ref (xa σ 0)), (2, .ref (xa τ 0)), (3, .ref o), (4, .int (nI i)), (5, .int k5)]) d_L_law_428 (by decide) [1, 2, 3, 4, 5, 0] rfl ?_
  refine b_aload_n X d_L_law_430 2 rfl rfl ?_
  refine b_callVM X cf_M_parse ci_M_parse ml_L_107 tM 0 rfl rfl (As := []) (rest := []) rfl (Nat.le_of_ble_eq_true rfl) ⟨Nat.le_of_ble_eq_true rfl, Nat.le_of_ble_eq_true rfl⟩ ⟨rfl, rfl⟩ hfH rfl rfl d_L_law_431 ?_
  refine b_istore X (lv' := [(0, .ref b), (1, .ref (xa σ 0)), (2, .ref (xa τ 0)), (3, .ref o), (4, .int (nI i)), (5, .int k5), (6, .int b6)]) d_L_law_434 (by decide) [1, 2, 3, 4, 5, 6, 0] rfl ?_
  refine b_aload_n X d_L_law_436 2 rfl rfl ?_
  refine b_callVM X cf_M_thrown ci_M_thrown ml_L_75 (ct_M_thrown_ G (xa τ, qM)) 0 rfl rfl (As := []) (rest := []) rfl (Nat.le_of_ble_eq_true rfl) ⟨Nat.le_of_ble_eq_true rfl, Nat.le_of_ble_eq_true rfl⟩ ⟨rfl, rfl⟩ hfH rfl rfl d_L_law_437 ?_
  refine b_iload X d_L_law_440 5 rfl ?_
  refine b_icmp_eq X (tgt := 447) d_L_law_442 (by decide) (fun _ => ?_) (fun h => absurd c442 h)
  refine b_iload X d_L_law_447 5 rfl ?_
  refine b_if_ne X (tgt := 464) d_L_law_449 (by decide) (fun _ => ?_) (fun h => absurd h hk)
  refine b_goto X (tgt := 944) d_L_law_464 (by decide) ?_
  refine b_iinc X (lv' := [(0, .ref b), (1, .ref (xa σ 0)), (2, .ref (xa τ 0)), (3, .ref o), (4, .int (nI (i + 3)))]) d_L_law_944 4 rfl (v := nI (i + 3)) (nI_add i 3) (by decide) [1, 2, 3, 4, 0] rfl ?_
  refine b_goto X (tgt := 23) d_L_law_947 (by decide) ?_
  exact k
theorem lc_9 {K : KX} {G : GG} {Q : State → Prop} {b L : Nat} {xs : Nat → Int32} (X : Bd K G [] "FirstTreesLaw" code 8 ret room_1) (hnf : nf (ks K)) (hX : va_X b L xs (ks K) (ks K).heap) (hbl : b < (ks K).heap.size) (hL : L < 2 ^ 31) (σ τ : St) (o : Nat) (f : Nat → Int64) (i cells slots : Nat) (hgo : ¬ nI L - 3 < nI i) (hi : i + 3 ≤ L) (hcase : xs i &&& 31 = nI 9) (b5 : Int32) (w' : va_W) (b6 : Int32) (qM : Sq) (hfC : cells ≤ 601024 ∧ slots ≤ 7293034) (tC : Ct y_F_nodes c_F_nodes 1 (some .int) rm_F_nodes G [.ref (xa σ 0)] (WC G σ) (eqp (some (.int b5)) w')) (tM : Ct y_M_nodes c_M_nodes 1 (some .int) rm_M_nodes G [.ref (xa τ 0)] (WM G τ) (eqp (some (.int b6)) (WM G (xa τ, qM)))) (c475 : b5 = b6) (k : Lb K G [] Q 8 23 [(0, .ref b), (1, .ref (xa σ 0)), (2, .ref (xa τ 0)), (3, .ref o), (4, .int (nI (i + 3)))] [] (ow G o f :: (w' ++ WM G (xa τ, qM))) cells slots) : Lb K G [] Q 8 23 [(0, .ref b), (1, .ref (xa σ 0)), (2, .ref (xa τ 0)), (3, .ref o), (4, .int (nI i))] [] (ow G o f :: (WC G σ ++ WM G τ)) cells slots := by
  refine b_iload X d_L_law_23 4 rfl ?_
  refine b_aload_n X d_L_law_25 0 rfl rfl ?_
  refine b_slen X hX hbl d_L_law_26 ?_
  refine b_iconst X (v := 3) d_L_law_27 (by decide) ?_
  refine b_isub X d_L_law_28 ?_
  refine b_icmp_gt X (tgt := 950) d_L_law_29 (by decide) (fun h => absurd h hgo) (fun _ => ?_)
  refine b_aload_n X d_L_law_32 0 rfl rfl ?_
  refine b_iload X d_L_law_33 4 rfl ?_
  refine b_sld X hX hbl i rfl (by omega) hL d_L_law_35 ?_
  refine b_bipush X (v := 31) d_L_law_36 (by decide) ?_
  refine b_iand X d_L_law_38 ?_
  refine Lb.eq (st' := [.int (nI 9)]) rfl (by rw [hcase]) rfl ?_
  refine b_tableIn X (tgt := 467) d_L_law_39 (by decide) (by decide) rfl (by decide) ?_
  refine b_aload_n X d_L_law_467 1 rfl rfl ?_
  refine b_callVC X cf_F_nodes ci_F_nodes ml_L_108 tC 0 rfl rfl (As := []) (rest := []) rfl (Nat.le_of_ble_eq_true rfl) ⟨Nat.le_of_ble_eq_true rfl, Nat.le_of_ble_eq_true rfl⟩ ⟨rfl, rfl⟩ hfC rfl rfl d_L_law_468 ?_
  refine b_aload_n X d_L_law_471 2 rfl rfl ?_
  refine b_callVM X cf_M_nodes ci_M_nodes ml_L_111 tM 0 rfl rfl (As := []) (rest := [.int b5]) rfl (Nat.le_of_ble_eq_true rfl) ⟨Nat.le_of_ble_eq_true rfl, Nat.le_of_ble_eq_true rfl⟩ ⟨rfl, rfl⟩ hfC rfl rfl d_L_law_472 ?_
  refine b_icmp_eq X (tgt := 944) d_L_law_475 (by decide) (fun _ => ?_) (fun h => absurd c475 h)
  refine b_iinc X (lv' := [(0, .ref b), (1, .ref (xa σ 0)), (2, .ref (xa τ 0)), (3, .ref o), (4, .int (nI (i + 3)))]) d_L_law_944 4 rfl (v := nI (i + 3)) (nI_add i 3) (by decide) [1, 2, 3, 4, 0] rfl ?_
  refine b_goto X (tgt := 23) d_L_law_947 (by decide) ?_
  exact k
theorem lc_10n {K : KX} {G : GG} {Q : State → Prop} {b L : Nat} {xs : Nat → Int32} (X : Bd K G [] "FirstTreesLaw" code 8 ret room_1) (hnf : nf (ks K)) (hX : va_X b L xs (ks K) (ks K).heap) (hbl : b < (ks K).heap.size) (hL : L < 2 ^ 31) (σ τ : St) (o : Nat) (f : Nat → Int64) (i cells slots : Nat) (hgo : ¬ nI L - 3 < nI i) (hi : i + 3 ≤ L) (hcase : xs i &&& 31 = nI 10) (rH : Room) (k5 : Int32) (f' : Nat → Int64) (w' : va_W) (b6 : Int32) (qM : Sq) (tH : CtH y_L_node c_L_node 5 (some .int) hs_L_node rH G [.ref (xa σ 0), .int (xs (i + 1)), .int (xs (i + 2)), .ref o] (ow G o f :: WC G σ) (eqp (some (.int k5)) (ow G o f' :: w'))) (hRH : rH.frames + 1 ≤ 11 ∧ 8 + (5 + 11) + rH.locals ≤ 384) (hfH : cells + rH.cells ≤ 601024 ∧ slots + rH.slots ≤ 7293034) (tM : Ct y_M_node c_M_node 3 (some .int) rm_M_node G [.ref (xa τ 0), .int (xs (i + 1)), .int (xs (i + 2))] (WM G τ) (eqp (some (.int b6)) (WM G (xa τ, qM)))) (c523 : (xi (xa τ, qM) 0 0) = k5) (hk : k5 = 0) (c539 : (f' 0) = (Int32.toInt64 b6)) (k : Lb K G [] Q 8 23 [(0, .ref b), (1, .ref (xa σ 0)), (2, .ref (xa τ 0)), (3, .ref o), (4, .int (nI (i + 3)))] [] (ow G o f' :: (w' ++ WM G (xa τ, qM))) (cells + rH.cells) (slots + rH.slots)) : Lb K G [] Q 8 23 [(0, .ref b), (1, .ref (xa σ 0)), (2, .ref (xa τ 0)), (3, .ref o), (4, .int (nI i))] [] (ow G o f :: (WC G σ ++ WM G τ)) cells slots := by
  refine b_iload X d_L_law_23 4 rfl ?_
  refine b_aload_n X d_L_law_25 0 rfl rfl ?_
  refine b_slen X hX hbl d_L_law_26 ?_
  refine b_iconst X (v := 3) d_L_law_27 (by decide) ?_
  refine b_isub X d_L_law_28 ?_
  refine b_icmp_gt X (tgt := 950) d_L_law_29 (by decide) (fun h => absurd h hgo) (fun _ => ?_)
  refine b_aload_n X d_L_law_32 0 rfl rfl ?_
  refine b_iload X d_L_law_33 4 rfl ?_
  refine b_sld X hX hbl i rfl (by omega) hL d_L_law_35 ?_
  refine b_bipush X (v := 31) d_L_law_36 (by decide) ?_
  refine b_iand X d_L_law_38 ?_
  refine Lb.eq (st' := [.int (nI 10)]) rfl (by rw [hcase]) rfl ?_
  refine b_tableIn X (tgt := 480) d_L_law_39 (by decide) (by decide) rfl (by decide) ?_
  refine b_aload_n X d_L_law_480 1 rfl rfl ?_
  refine b_aload_n X d_L_law_481 0 rfl rfl ?_
  refine b_iload X d_L_law_482 4 rfl ?_
  refine b_iconst X (v := 1) d_L_law_484 (by decide) ?_
  refine b_iadd X d_L_law_485 ?_
  refine b_sld X hX hbl (i + 1) (nI_add i 1) (by omega) hL d_L_law_486 ?_
  refine b_aload_n X d_L_law_487 0 rfl rfl ?_
  refine b_iload X d_L_law_488 4 rfl ?_
  refine b_iconst X (v := 2) d_L_law_490 (by decide) ?_
  refine b_iadd X d_L_law_491 ?_
  refine b_sld X hX hbl (i + 2) (nI_add i 2) (by omega) hL d_L_law_492 ?_
  refine b_aload_n X d_L_law_493 3 rfl rfl ?_
  refine b_callHM X hnf cfh_L_node ml_L_112 tH (As := [.ref (xa σ 0), .int (xs (i + 1)), .int (xs (i + 2)), .ref o]) (rest := []) rfl (Nat.le_of_ble_eq_true rfl) hRH hfH rfl rfl d_L_law_494 ?_
  refine b_istore X (lv' := [(0, .ref b), (1, .ref (xa σ 0)), (2, .ref (xa τ 0)), (3, .ref o), (4, .int (nI i)), (5, .int k5)]) d_L_law_497 (by decide) [1, 2, 3, 4, 5, 0] rfl ?_
  refine b_aload_n X d_L_law_499 2 rfl rfl ?_
  refine b_aload_n X d_L_law_500 0 rfl rfl ?_
  refine b_iload X d_L_law_501 4 rfl ?_
  refine b_iconst X (v := 1) d_L_law_503 (by decide) ?_
  refine b_iadd X d_L_law_504 ?_
  refine b_sld X hX hbl (i + 1) (nI_add i 1) (by omega) hL d_L_law_505 ?_
  refine b_aload_n X d_L_law_506 0 rfl rfl ?_
  refine b_iload X d_L_law_507 4 rfl ?_
  refine b_iconst X (v := 2) d_L_law_509 (by decide) ?_
  refine b_iadd X d_L_law_510 ?_
  refine b_sld X hX hbl (i + 2) (nI_add i 2) (by omega) hL d_L_law_511 ?_
  refine b_callVM X cf_M_node ci_M_node ml_L_114 tM 0 rfl rfl (As := [.int (xs (i + 1)), .int (xs (i + 2))]) (rest := []) rfl (Nat.le_of_ble_eq_true rfl) ⟨Nat.le_of_ble_eq_true rfl, Nat.le_of_ble_eq_true rfl⟩ ⟨rfl, rfl⟩ hfH rfl rfl d_L_law_512 ?_
  refine b_istore X (lv' := [(0, .ref b), (1, .ref (xa σ 0)), (2, .ref (xa τ 0)), (3, .ref o), (4, .int (nI i)), (5, .int k5), (6, .int b6)]) d_L_law_515 (by decide) [1, 2, 3, 4, 5, 6, 0] rfl ?_
  refine b_aload_n X d_L_law_517 2 rfl rfl ?_
  refine b_callVM X cf_M_thrown ci_M_thrown ml_L_75 (ct_M_thrown_ G (xa τ, qM)) 0 rfl rfl (As := []) (rest := []) rfl (Nat.le_of_ble_eq_true rfl) ⟨Nat.le_of_ble_eq_true rfl, Nat.le_of_ble_eq_true rfl⟩ ⟨rfl, rfl⟩ hfH rfl rfl d_L_law_518 ?_
  refine b_iload X d_L_law_521 5 rfl ?_
  refine b_icmp_eq X (tgt := 528) d_L_law_523 (by decide) (fun _ => ?_) (fun h => absurd c523 h)
  refine b_iload X d_L_law_528 5 rfl ?_
  refine b_if_ne X (tgt := 545) d_L_law_530 (by decide) (fun h => absurd hk h) (fun _ => ?_)
  refine b_aload_n X d_L_law_533 3 rfl rfl ?_
  refine b_iconst X (v := 0) d_L_law_534 (by decide) ?_
  refine b_lald X 0 rfl (by decide) 0 rfl (by decide) d_L_law_535 ?_
  refine b_iload X d_L_law_536 6 rfl ?_
  refine b_i2l X (v := (Int32.toInt64 b6)) d_L_law_538 rfl ?_
  refine b_l_eq X (tgt := 545) d_L_law_539 d_L_law_540 (by decide) (fun _ => ?_) (fun h => absurd c539 h)
  refine b_goto X (tgt := 944) d_L_law_545 (by decide) ?_
  refine b_iinc X (lv' := [(0, .ref b), (1, .ref (xa σ 0)), (2, .ref (xa τ 0)), (3, .ref o), (4, .int (nI (i + 3)))]) d_L_law_944 4 rfl (v := nI (i + 3)) (nI_add i 3) (by decide) [1, 2, 3, 4, 0] rfl ?_
  refine b_goto X (tgt := 23) d_L_law_947 (by decide) ?_
  exact k
theorem lc_10z {K : KX} {G : GG} {Q : State → Prop} {b L : Nat} {xs : Nat → Int32} (X : Bd K G [] "FirstTreesLaw" code 8 ret room_1) (hnf : nf (ks K)) (hX : va_X b L xs (ks K) (ks K).heap) (hbl : b < (ks K).heap.size) (hL : L < 2 ^ 31) (σ τ : St) (o : Nat) (f : Nat → Int64) (i cells slots : Nat) (hgo : ¬ nI L - 3 < nI i) (hi : i + 3 ≤ L) (hcase : xs i &&& 31 = nI 10) (rH : Room) (k5 : Int32) (f' : Nat → Int64) (w' : va_W) (b6 : Int32) (qM : Sq) (tH : CtH y_L_node c_L_node 5 (some .int) hs_L_node rH G [.ref (xa σ 0), .int (xs (i + 1)), .int (xs (i + 2)), .ref o] (ow G o f :: WC G σ) (eqp (some (.int k5)) (ow G o f' :: w'))) (hRH : rH.frames + 1 ≤ 11 ∧ 8 + (5 + 11) + rH.locals ≤ 384) (hfH : cells + rH.cells ≤ 601024 ∧ slots + rH.slots ≤ 7293034) (tM : Ct y_M_node c_M_node 3 (some .int) rm_M_node G [.ref (xa τ 0), .int (xs (i + 1)), .int (xs (i + 2))] (WM G τ) (eqp (some (.int b6)) (WM G (xa τ, qM)))) (c523 : (xi (xa τ, qM) 0 0) = k5) (hk : ¬ k5 = 0) (k : Lb K G [] Q 8 23 [(0, .ref b), (1, .ref (xa σ 0)), (2, .ref (xa τ 0)), (3, .ref o), (4, .int (nI (i + 3)))] [] (ow G o f' :: (w' ++ WM G (xa τ, qM))) (cells + rH.cells) (slots + rH.slots)) : Lb K G [] Q 8 23 [(0, .ref b), (1, .ref (xa σ 0)), (2, .ref (xa τ 0)), (3, .ref o), (4, .int (nI i))] [] (ow G o f :: (WC G σ ++ WM G τ)) cells slots := by
  refine b_iload X d_L_law_23 4 rfl ?_
  refine b_aload_n X d_L_law_25 0 rfl rfl ?_
  refine b_slen X hX hbl d_L_law_26 ?_
  refine b_iconst X (v := 3) d_L_law_27 (by decide) ?_
  refine b_isub X d_L_law_28 ?_
  refine b_icmp_gt X (tgt := 950) d_L_law_29 (by decide) (fun h => absurd h hgo) (fun _ => ?_)
  refine b_aload_n X d_L_law_32 0 rfl rfl ?_
  refine b_iload X d_L_law_33 4 rfl ?_
  refine b_sld X hX hbl i rfl (by omega) hL d_L_law_35 ?_
  refine b_bipush X (v := 31) d_L_law_36 (by decide) ?_
  refine b_iand X d_L_law_38 ?_
  refine Lb.eq (st' := [.int (nI 10)]) rfl (by rw [hcase]) rfl ?_
  refine b_tableIn X (tgt := 480) d_L_law_39 (by decide) (by decide) rfl (by decide) ?_
  refine b_aload_n X d_L_law_480 1 rfl rfl ?_
  refine b_aload_n X d_L_law_481 0 rfl rfl ?_
  refine b_iload X d_L_law_482 4 rfl ?_
  refine b_iconst X (v := 1) d_L_law_484 (by decide) ?_
  refine b_iadd X d_L_law_485 ?_
  refine b_sld X hX hbl (i + 1) (nI_add i 1) (by omega) hL d_L_law_486 ?_
  refine b_aload_n X d_L_law_487 0 rfl rfl ?_
  refine b_iload X d_L_law_488 4 rfl ?_
  refine b_iconst X (v := 2) d_L_law_490 (by decide) ?_
  refine b_iadd X d_L_law_491 ?_
  refine b_sld X hX hbl (i + 2) (nI_add i 2) (by omega) hL d_L_law_492 ?_
  refine b_aload_n X d_L_law_493 3 rfl rfl ?_
  refine b_callHM X hnf cfh_L_node ml_L_112 tH (As := [.ref (xa σ 0), .int (xs (i + 1)), .int (xs (i + 2)), .ref o]) (rest := []) rfl (Nat.le_of_ble_eq_true rfl) hRH hfH rfl rfl d_L_law_494 ?_
  refine b_istore X (lv' := [(0, .ref b), (1, .ref (xa σ 0)), (2, .ref (xa τ 0)), (3, .ref o), (4, .int (nI i)), (5, .int k5)]) d_L_law_497 (by decide) [1, 2, 3, 4, 5, 0] rfl ?_
  refine b_aload_n X d_L_law_499 2 rfl rfl ?_
  refine b_aload_n X d_L_law_500 0 rfl rfl ?_
  refine b_iload X d_L_law_501 4 rfl ?_
  refine b_iconst X (v := 1) d_L_law_503 (by decide) ?_
  refine b_iadd X d_L_law_504 ?_
  refine b_sld X hX hbl (i + 1) (nI_add i 1) (by omega) hL d_L_law_505 ?_
  refine b_aload_n X d_L_law_506 0 rfl rfl ?_
  refine b_iload X d_L_law_507 4 rfl ?_
  refine b_iconst X (v := 2) d_L_law_509 (by decide) ?_
  refine b_iadd X d_L_law_510 ?_
  refine b_sld X hX hbl (i + 2) (nI_add i 2) (by omega) hL d_L_law_511 ?_
  refine b_callVM X cf_M_node ci_M_node ml_L_114 tM 0 rfl rfl (As := [.int (xs (i + 1)), .int (xs (i + 2))]) (rest := []) rfl (Nat.le_of_ble_eq_true rfl) ⟨Nat.le_of_ble_eq_true rfl, Nat.le_of_ble_eq_true rfl⟩ ⟨rfl, rfl⟩ hfH rfl rfl d_L_law_512 ?_
  refine b_istore X (lv' := [(0, .ref b), (1, .ref (xa σ 0)), (2, .ref (xa τ 0)), (3, .ref o), (4, .int (nI i)), (5, .int k5), (6, .int b6)]) d_L_law_515 (by decide) [1, 2, 3, 4, 5, 6, 0] rfl ?_
  refine b_aload_n X d_L_law_517 2 rfl rfl ?_
  refine b_callVM X cf_M_thrown ci_M_thrown ml_L_75 (ct_M_thrown_ G (xa τ, qM)) 0 rfl rfl (As := []) (rest := []) rfl (Nat.le_of_ble_eq_true rfl) ⟨Nat.le_of_ble_eq_true rfl, Nat.le_of_ble_eq_true rfl⟩ ⟨rfl, rfl⟩ hfH rfl rfl d_L_law_518 ?_
  refine b_iload X d_L_law_521 5 rfl ?_
  refine b_icmp_eq X (tgt := 528) d_L_law_523 (by decide) (fun _ => ?_) (fun h => absurd c523 h)
  refine b_iload X d_L_law_528 5 rfl ?_
  refine b_if_ne X (tgt := 545) d_L_law_530 (by decide) (fun _ => ?_) (fun h => absurd h hk)
  refine b_goto X (tgt := 944) d_L_law_545 (by decide) ?_
  refine b_iinc X (lv' := [(0, .ref b), (1, .ref (xa σ 0)), (2, .ref (xa τ 0)), (3, .ref o), (4, .int (nI (i + 3)))]) d_L_law_944 4 rfl (v := nI (i + 3)) (nI_add i 3) (by decide) [1, 2, 3, 4, 0] rfl ?_
  refine b_goto X (tgt := 23) d_L_law_947 (by decide) ?_
  exact k
theorem lc_11n {K : KX} {G : GG} {Q : State → Prop} {b L : Nat} {xs : Nat → Int32} (X : Bd K G [] "FirstTreesLaw" code 8 ret room_1) (hnf : nf (ks K)) (hX : va_X b L xs (ks K) (ks K).heap) (hbl : b < (ks K).heap.size) (hL : L < 2 ^ 31) (σ τ : St) (o : Nat) (f : Nat → Int64) (i cells slots : Nat) (hgo : ¬ nI L - 3 < nI i) (hi : i + 3 ≤ L) (hcase : xs i &&& 31 = nI 11) (rH : Room) (k5 : Int32) (f' : Nat → Int64) (w' : va_W) (b6 : Int32) (qM : Sq) (tH : CtH y_L_reach c_L_reach 3 (some .int) hs_L_reach rH G [.ref (xa σ 0), .ref o] (ow G o f :: WC G σ) (eqp (some (.int k5)) (ow G o f' :: w'))) (hRH : rH.frames + 1 ≤ 11 ∧ 8 + (3 + 11) + rH.locals ≤ 384) (hfH : cells + rH.cells ≤ 601024 ∧ slots + rH.slots ≤ 7293034) (tM : Ct y_M_reach c_M_reach 1 (some .int) rm_M_reach G [.ref (xa τ 0)] (WM G τ) (eqp (some (.int b6)) (WM G (xa τ, qM)))) (c567 : (xi (xa τ, qM) 0 0) = k5) (hk : k5 = 0) (c583 : (f' 0) = (Int32.toInt64 b6)) (k : Lb K G [] Q 8 23 [(0, .ref b), (1, .ref (xa σ 0)), (2, .ref (xa τ 0)), (3, .ref o), (4, .int (nI (i + 3)))] [] (ow G o f' :: (w' ++ WM G (xa τ, qM))) (cells + rH.cells) (slots + rH.slots)) : Lb K G [] Q 8 23 [(0, .ref b), (1, .ref (xa σ 0)), (2, .ref (xa τ 0)), (3, .ref o), (4, .int (nI i))] [] (ow G o f :: (WC G σ ++ WM G τ)) cells slots := by
  refine b_iload X d_L_law_23 4 rfl ?_
  refine b_aload_n X d_L_law_25 0 rfl rfl ?_
  refine b_slen X hX hbl d_L_law_26 ?_
  refine b_iconst X (v := 3) d_L_law_27 (by decide) ?_
  refine b_isub X d_L_law_28 ?_
  refine b_icmp_gt X (tgt := 950) d_L_law_29 (by decide) (fun h => absurd h hgo) (fun _ => ?_)
  refine b_aload_n X d_L_law_32 0 rfl rfl ?_
  refine b_iload X d_L_law_33 4 rfl ?_
  refine b_sld X hX hbl i rfl (by omega) hL d_L_law_35 ?_
  refine b_bipush X (v := 31) d_L_law_36 (by decide) ?_
  refine b_iand X d_L_law_38 ?_
  refine Lb.eq (st' := [.int (nI 11)]) rfl (by rw [hcase]) rfl ?_
  refine b_tableIn X (tgt := 548) d_L_law_39 (by decide) (by decide) rfl (by decide) ?_
  refine b_aload_n X d_L_law_548 1 rfl rfl ?_
  refine b_aload_n X d_L_law_549 3 rfl rfl ?_
  refine b_callHM X hnf cfh_L_reach ml_L_115 tH (As := [.ref (xa σ 0), .ref o]) (rest := []) rfl (Nat.le_of_ble_eq_true rfl) hRH hfH rfl rfl d_L_law_550 ?_
  refine b_istore X (lv' := [(0, .ref b), (1, .ref (xa σ 0)), (2, .ref (xa τ 0)), (3, .ref o), (4, .int (nI i)), (5, .int k5)]) d_L_law_553 (by decide) [1, 2, 3, 4, 5, 0] rfl ?_
  refine b_aload_n X d_L_law_555 2 rfl rfl ?_
  refine b_callVM X cf_M_reach ci_M_reach ml_L_117 tM 0 rfl rfl (As := []) (rest := []) rfl (Nat.le_of_ble_eq_true rfl) ⟨Nat.le_of_ble_eq_true rfl, Nat.le_of_ble_eq_true rfl⟩ ⟨rfl, rfl⟩ hfH rfl rfl d_L_law_556 ?_
  refine b_istore X (lv' := [(0, .ref b), (1, .ref (xa σ 0)), (2, .ref (xa τ 0)), (3, .ref o), (4, .int (nI i)), (5, .int k5), (6, .int b6)]) d_L_law_559 (by decide) [1, 2, 3, 4, 5, 6, 0] rfl ?_
  refine b_aload_n X d_L_law_561 2 rfl rfl ?_
  refine b_callVM X cf_M_thrown ci_M_thrown ml_L_75 (ct_M_thrown_ G (xa τ, qM)) 0 rfl rfl (As := []) (rest := []) rfl (Nat.le_of_ble_eq_true rfl) ⟨Nat.le_of_ble_eq_true rfl, Nat.le_of_ble_eq_true rfl⟩ ⟨rfl, rfl⟩ hfH rfl rfl d_L_law_562 ?_
  refine b_iload X d_L_law_565 5 rfl ?_
  refine b_icmp_eq X (tgt := 572) d_L_law_567 (by decide) (fun _ => ?_) (fun h => absurd c567 h)
  refine b_iload X d_L_law_572 5 rfl ?_
  refine b_if_ne X (tgt := 589) d_L_law_574 (by decide) (fun h => absurd hk h) (fun _ => ?_)
  refine b_aload_n X d_L_law_577 3 rfl rfl ?_
  refine b_iconst X (v := 0) d_L_law_578 (by decide) ?_
  refine b_lald X 0 rfl (by decide) 0 rfl (by decide) d_L_law_579 ?_
  refine b_iload X d_L_law_580 6 rfl ?_
  refine b_i2l X (v := (Int32.toInt64 b6)) d_L_law_582 rfl ?_
  refine b_l_eq X (tgt := 589) d_L_law_583 d_L_law_584 (by decide) (fun _ => ?_) (fun h => absurd c583 h)
  refine b_goto X (tgt := 944) d_L_law_589 (by decide) ?_
  refine b_iinc X (lv' := [(0, .ref b), (1, .ref (xa σ 0)), (2, .ref (xa τ 0)), (3, .ref o), (4, .int (nI (i + 3)))]) d_L_law_944 4 rfl (v := nI (i + 3)) (nI_add i 3) (by decide) [1, 2, 3, 4, 0] rfl ?_
  refine b_goto X (tgt := 23) d_L_law_947 (by decide) ?_
  exact k
theorem lc_11z {K : KX} {G : GG} {Q : State → Prop} {b L : Nat} {xs : Nat → Int32} (X : Bd K G [] "FirstTreesLaw" code 8 ret room_1) (hnf : nf (ks K)) (hX : va_X b L xs (ks K) (ks K).heap) (hbl : b < (ks K).heap.size) (hL : L < 2 ^ 31) (σ τ : St) (o : Nat) (f : Nat → Int64) (i cells slots : Nat) (hgo : ¬ nI L - 3 < nI i) (hi : i + 3 ≤ L) (hcase : xs i &&& 31 = nI 11) (rH : Room) (k5 : Int32) (f' : Nat → Int64) (w' : va_W) (b6 : Int32) (qM : Sq) (tH : CtH y_L_reach c_L_reach 3 (some .int) hs_L_reach rH G [.ref (xa σ 0), .ref o] (ow G o f :: WC G σ) (eqp (some (.int k5)) (ow G o f' :: w'))) (hRH : rH.frames + 1 ≤ 11 ∧ 8 + (3 + 11) + rH.locals ≤ 384) (hfH : cells + rH.cells ≤ 601024 ∧ slots + rH.slots ≤ 7293034) (tM : Ct y_M_reach c_M_reach 1 (some .int) rm_M_reach G [.ref (xa τ 0)] (WM G τ) (eqp (some (.int b6)) (WM G (xa τ, qM)))) (c567 : (xi (xa τ, qM) 0 0) = k5) (hk : ¬ k5 = 0) (k : Lb K G [] Q 8 23 [(0, .ref b), (1, .ref (xa σ 0)), (2, .ref (xa τ 0)), (3, .ref o), (4, .int (nI (i + 3)))] [] (ow G o f' :: (w' ++ WM G (xa τ, qM))) (cells + rH.cells) (slots + rH.slots)) : Lb K G [] Q 8 23 [(0, .ref b), (1, .ref (xa σ 0)), (2, .ref (xa τ 0)), (3, .ref o), (4, .int (nI i))] [] (ow G o f :: (WC G σ ++ WM G τ)) cells slots := by
  refine b_iload X d_L_law_23 4 rfl ?_
  refine b_aload_n X d_L_law_25 0 rfl rfl ?_
  refine b_slen X hX hbl d_L_law_26 ?_
  refine b_iconst X (v := 3) d_L_law_27 (by decide) ?_
  refine b_isub X d_L_law_28 ?_
  refine b_icmp_gt X (tgt := 950) d_L_law_29 (by decide) (fun h => absurd h hgo) (fun _ => ?_)
  refine b_aload_n X d_L_law_32 0 rfl rfl ?_
  refine b_iload X d_L_law_33 4 rfl ?_
  refine b_sld X hX hbl i rfl (by omega) hL d_L_law_35 ?_
  refine b_bipush X (v := 31) d_L_law_36 (by decide) ?_
  refine b_iand X d_L_law_38 ?_
  refine Lb.eq (st' := [.int (nI 11)]) rfl (by rw [hcase]) rfl ?_
  refine b_tableIn X (tgt := 548) d_L_law_39 (by decide) (by decide) rfl (by decide) ?_
  refine b_aload_n X d_L_law_548 1 rfl rfl ?_
  refine b_aload_n X d_L_law_549 3 rfl rfl ?_
  refine b_callHM X hnf cfh_L_reach ml_L_115 tH (As := [.ref (xa σ 0), .ref o]) (rest := []) rfl (Nat.le_of_ble_eq_true rfl) hRH hfH rfl rfl d_L_law_550 ?_
  refine b_istore X (lv' := [(0, .ref b), (1, .ref (xa σ 0)), (2, .ref (xa τ 0)), (3, .ref o), (4, .int (nI i)), (5, .int k5)]) d_L_law_553 (by decide) [1, 2, 3, 4, 5, 0] rfl ?_
  refine b_aload_n X d_L_law_555 2 rfl rfl ?_
  refine b_callVM X cf_M_reach ci_M_reach ml_L_117 tM 0 rfl rfl (As := []) (rest := []) rfl (Nat.le_of_ble_eq_true rfl) ⟨Nat.le_of_ble_eq_true rfl, Nat.le_of_ble_eq_true rfl⟩ ⟨rfl, rfl⟩ hfH rfl rfl d_L_law_556 ?_
  refine b_istore X (lv' := [(0, .ref b), (1, .ref (xa σ 0)), (2, .ref (xa τ 0)), (3, .ref o), (4, .int (nI i)), (5, .int k5), (6, .int b6)]) d_L_law_559 (by decide) [1, 2, 3, 4, 5, 6, 0] rfl ?_
  refine b_aload_n X d_L_law_561 2 rfl rfl ?_
  refine b_callVM X cf_M_thrown ci_M_thrown ml_L_75 (ct_M_thrown_ G (xa τ, qM)) 0 rfl rfl (As := []) (rest := []) rfl (Nat.le_of_ble_eq_true rfl) ⟨Nat.le_of_ble_eq_true rfl, Nat.le_of_ble_eq_true rfl⟩ ⟨rfl, rfl⟩ hfH rfl rfl d_L_law_562 ?_
  refine b_iload X d_L_law_565 5 rfl ?_
  refine b_icmp_eq X (tgt := 572) d_L_law_567 (by decide) (fun _ => ?_) (fun h => absurd c567 h)
  refine b_iload X d_L_law_572 5 rfl ?_
  refine b_if_ne X (tgt := 589) d_L_law_574 (by decide) (fun _ => ?_) (fun h => absurd h hk)
  refine b_goto X (tgt := 944) d_L_law_589 (by decide) ?_
  refine b_iinc X (lv' := [(0, .ref b), (1, .ref (xa σ 0)), (2, .ref (xa τ 0)), (3, .ref o), (4, .int (nI (i + 3)))]) d_L_law_944 4 rfl (v := nI (i + 3)) (nI_add i 3) (by decide) [1, 2, 3, 4, 0] rfl ?_
  refine b_goto X (tgt := 23) d_L_law_947 (by decide) ?_
  exact k
theorem lc_12n {K : KX} {G : GG} {Q : State → Prop} {b L : Nat} {xs : Nat → Int32} (X : Bd K G [] "FirstTreesLaw" code 8 ret room_1) (hnf : nf (ks K)) (hX : va_X b L xs (ks K) (ks K).heap) (hbl : b < (ks K).heap.size) (hL : L < 2 ^ 31) (σ τ : St) (o : Nat) (f : Nat → Int64) (i cells slots : Nat) (hgo : ¬ nI L - 3 < nI i) (hi : i + 3 ≤ L) (hcase : xs i &&& 31 = nI 12) (rH : Room) (k5 : Int32) (f' : Nat → Int64) (w' : va_W) (b6 : Int64) (qM : Sq) (tH : CtH y_L_expected c_L_expected 4 (some .int) hs_L_expected rH G [.ref (xa σ 0), .int (xs (i + 1)), .ref o] (ow G o f :: WC G σ) (eqp (some (.int k5)) (ow G o f' :: w'))) (hRH : rH.frames + 1 ≤ 11 ∧ 8 + (4 + 11) + rH.locals ≤ 384) (hfH : cells + rH.cells ≤ 601024 ∧ slots + rH.slots ≤ 7293034) (tM : Ct y_M_expected c_M_expected 2 (some .long) rm_M_expected G [.ref (xa τ 0), .int (xs (i + 1))] (WM G τ) (eqp (some (.long b6)) (WM G (xa τ, qM)))) (c623 : (xi (xa τ, qM) 0 0) = k5) (hk : k5 = 0) (c638 : (f' 0) = b6) (k : Lb K G [] Q 8 23 [(0, .ref b), (1, .ref (xa σ 0)), (2, .ref (xa τ 0)), (3, .ref o), (4, .int (nI (i + 3)))] [] (ow G o f' :: (w' ++ WM G (xa τ, qM))) (cells + rH.cells) (slots + rH.slots)) : Lb K G [] Q 8 23 [(0, .ref b), (1, .ref (xa σ 0)), (2, .ref (xa τ 0)), (3, .ref o), (4, .int (nI i))] [] (ow G o f :: (WC G σ ++ WM G τ)) cells slots := by
  refine b_iload X d_L_law_23 4 rfl ?_
  refine b_aload_n X d_L_law_25 0 rfl rfl ?_
  refine b_slen X hX hbl d_L_law_26 ?_
  refine b_iconst X (v := 3) d_L_law_27 (by decide) ?_
  refine b_isub X d_L_law_28 ?_
  refine b_icmp_gt X (tgt := 950) d_L_law_29 (by decide) (fun h => absurd h hgo) (fun _ => ?_)
  refine b_aload_n X d_L_law_32 0 rfl rfl ?_
  refine b_iload X d_L_law_33 4 rfl ?_
  refine b_sld X hX hbl i rfl (by omega) hL d_L_law_35 ?_
  refine b_bipush X (v := 31) d_L_law_36 (by decide) ?_
  refine b_iand X d_L_law_38 ?_
  refine Lb.eq (st' := [.int (nI 12)]) rfl (by rw [hcase]) rfl ?_
  refine b_tableIn X (tgt := 592) d_L_law_39 (by decide) (by decide) rfl (by decide) ?_
  refine b_aload_n X d_L_law_592 1 rfl rfl ?_
  refine b_aload_n X d_L_law_593 0 rfl rfl ?_
  refine b_iload X d_L_law_594 4 rfl ?_
  refine b_iconst X (v := 1) d_L_law_596 (by decide) ?_
  refine b_iadd X d_L_law_597 ?_
  refine b_sld X hX hbl (i + 1) (nI_add i 1) (by omega) hL d_L_law_598 ?_
  refine b_aload_n X d_L_law_599 3 rfl rfl ?_
  refine b_callHM X hnf cfh_L_expected ml_L_118 tH (As := [.ref (xa σ 0), .int (xs (i + 1)), .ref o]) (rest := []) rfl (Nat.le_of_ble_eq_true rfl) hRH hfH rfl rfl d_L_law_600 ?_
  refine b_istore X (lv' := [(0, .ref b), (1, .ref (xa σ 0)), (2, .ref (xa τ 0)), (3, .ref o), (4, .int (nI i)), (5, .int k5)]) d_L_law_603 (by decide) [1, 2, 3, 4, 5, 0] rfl ?_
  refine b_aload_n X d_L_law_605 2 rfl rfl ?_
  refine b_aload_n X d_L_law_606 0 rfl rfl ?_
  refine b_iload X d_L_law_607 4 rfl ?_
  refine b_iconst X (v := 1) d_L_law_609 (by decide) ?_
  refine b_iadd X d_L_law_610 ?_
  refine b_sld X hX hbl (i + 1) (nI_add i 1) (by omega) hL d_L_law_611 ?_
  refine b_callVM X cf_M_expected ci_M_expected ml_L_120 tM 0 rfl rfl (As := [.int (xs (i + 1))]) (rest := []) rfl (Nat.le_of_ble_eq_true rfl) ⟨Nat.le_of_ble_eq_true rfl, Nat.le_of_ble_eq_true rfl⟩ ⟨rfl, rfl⟩ hfH rfl rfl d_L_law_612 ?_
  refine b_lstore X (lv' := [(0, .ref b), (1, .ref (xa σ 0)), (2, .ref (xa τ 0)), (3, .ref o), (4, .int (nI i)), (5, .int k5), (6, .long b6)]) d_L_law_615 (by decide) [1, 2, 3, 4, 5, 6, 0] rfl ?_
  refine b_aload_n X d_L_law_617 2 rfl rfl ?_
  refine b_callVM X cf_M_thrown ci_M_thrown ml_L_75 (ct_M_thrown_ G (xa τ, qM)) 0 rfl rfl (As := []) (rest := []) rfl (Nat.le_of_ble_eq_true rfl) ⟨Nat.le_of_ble_eq_true rfl, Nat.le_of_ble_eq_true rfl⟩ ⟨rfl, rfl⟩ hfH rfl rfl d_L_law_618 ?_
  refine b_iload X d_L_law_621 5 rfl ?_
  refine b_icmp_eq X (tgt := 628) d_L_law_623 (by decide) (fun _ => ?_) (fun h => absurd c623 h)
  refine b_iload X d_L_law_628 5 rfl ?_
  refine b_if_ne X (tgt := 644) d_L_law_630 (by decide) (fun h => absurd hk h) (fun _ => ?_)
  refine b_aload_n X d_L_law_633 3 rfl rfl ?_
  refine b_iconst X (v := 0) d_L_law_634 (by decide) ?_
  refine b_lald X 0 rfl (by decide) 0 rfl (by decide) d_L_law_635 ?_
  refine b_lload X d_L_law_636 6 rfl ?_
  refine b_l_eq X (tgt := 644) d_L_law_638 d_L_law_639 (by decide) (fun _ => ?_) (fun h => absurd c638 h)
  refine b_goto X (tgt := 944) d_L_law_644 (by decide) ?_
  refine b_iinc X (lv' := [(0, .ref b), (1, .ref (xa σ 0)), (2, .ref (xa τ 0)), (3, .ref o), (4, .int (nI (i + 3)))]) d_L_law_944 4 rfl (v := nI (i + 3)) (nI_add i 3) (by decide) [1, 2, 3, 4, 0] rfl ?_
  refine b_goto X (tgt := 23) d_L_law_947 (by decide) ?_
  exact k
theorem lc_12z {K : KX} {G : GG} {Q : State → Prop} {b L : Nat} {xs : Nat → Int32} (X : Bd K G [] "FirstTreesLaw" code 8 ret room_1) (hnf : nf (ks K)) (hX : va_X b L xs (ks K) (ks K).heap) (hbl : b < (ks K).heap.size) (hL : L < 2 ^ 31) (σ τ : St) (o : Nat) (f : Nat → Int64) (i cells slots : Nat) (hgo : ¬ nI L - 3 < nI i) (hi : i + 3 ≤ L) (hcase : xs i &&& 31 = nI 12) (rH : Room) (k5 : Int32) (f' : Nat → Int64) (w' : va_W) (b6 : Int64) (qM : Sq) (tH : CtH y_L_expected c_L_expected 4 (some .int) hs_L_expected rH G [.ref (xa σ 0), .int (xs (i + 1)), .ref o] (ow G o f :: WC G σ) (eqp (some (.int k5)) (ow G o f' :: w'))) (hRH : rH.frames + 1 ≤ 11 ∧ 8 + (4 + 11) + rH.locals ≤ 384) (hfH : cells + rH.cells ≤ 601024 ∧ slots + rH.slots ≤ 7293034) (tM : Ct y_M_expected c_M_expected 2 (some .long) rm_M_expected G [.ref (xa τ 0), .int (xs (i + 1))] (WM G τ) (eqp (some (.long b6)) (WM G (xa τ, qM)))) (c623 : (xi (xa τ, qM) 0 0) = k5) (hk : ¬ k5 = 0) (k : Lb K G [] Q 8 23 [(0, .ref b), (1, .ref (xa σ 0)), (2, .ref (xa τ 0)), (3, .ref o), (4, .int (nI (i + 3)))] [] (ow G o f' :: (w' ++ WM G (xa τ, qM))) (cells + rH.cells) (slots + rH.slots)) : Lb K G [] Q 8 23 [(0, .ref b), (1, .ref (xa σ 0)), (2, .ref (xa τ 0)), (3, .ref o), (4, .int (nI i))] [] (ow G o f :: (WC G σ ++ WM G τ)) cells slots := by
  refine b_iload X d_L_law_23 4 rfl ?_
  refine b_aload_n X d_L_law_25 0 rfl rfl ?_
  refine b_slen X hX hbl d_L_law_26 ?_
  refine b_iconst X (v := 3) d_L_law_27 (by decide) ?_
  refine b_isub X d_L_law_28 ?_
  refine b_icmp_gt X (tgt := 950) d_L_law_29 (by decide) (fun h => absurd h hgo) (fun _ => ?_)
  refine b_aload_n X d_L_law_32 0 rfl rfl ?_
  refine b_iload X d_L_law_33 4 rfl ?_
  refine b_sld X hX hbl i rfl (by omega) hL d_L_law_35 ?_
  refine b_bipush X (v := 31) d_L_law_36 (by decide) ?_
  refine b_iand X d_L_law_38 ?_
  refine Lb.eq (st' := [.int (nI 12)]) rfl (by rw [hcase]) rfl ?_
  refine b_tableIn X (tgt := 592) d_L_law_39 (by decide) (by decide) rfl (by decide) ?_
  refine b_aload_n X d_L_law_592 1 rfl rfl ?_
  refine b_aload_n X d_L_law_593 0 rfl rfl ?_
  refine b_iload X d_L_law_594 4 rfl ?_
  refine b_iconst X (v := 1) d_L_law_596 (by decide) ?_
  refine b_iadd X d_L_law_597 ?_
  refine b_sld X hX hbl (i + 1) (nI_add i 1) (by omega) hL d_L_law_598 ?_
  refine b_aload_n X d_L_law_599 3 rfl rfl ?_
  refine b_callHM X hnf cfh_L_expected ml_L_118 tH (As := [.ref (xa σ 0), .int (xs (i + 1)), .ref o]) (rest := []) rfl (Nat.le_of_ble_eq_true rfl) hRH hfH rfl rfl d_L_law_600 ?_
  refine b_istore X (lv' := [(0, .ref b), (1, .ref (xa σ 0)), (2, .ref (xa τ 0)), (3, .ref o), (4, .int (nI i)), (5, .int k5)]) d_L_law_603 (by decide) [1, 2, 3, 4, 5, 0] rfl ?_
  refine b_aload_n X d_L_law_605 2 rfl rfl ?_
  refine b_aload_n X d_L_law_606 0 rfl rfl ?_
  refine b_iload X d_L_law_607 4 rfl ?_
  refine b_iconst X (v := 1) d_L_law_609 (by decide) ?_
  refine b_iadd X d_L_law_610 ?_
  refine b_sld X hX hbl (i + 1) (nI_add i 1) (by omega) hL d_L_law_611 ?_
  refine b_callVM X cf_M_expected ci_M_expected ml_L_120 tM 0 rfl rfl (As := [.int (xs (i + 1))]) (rest := []) rfl (Nat.le_of_ble_eq_true rfl) ⟨Nat.le_of_ble_eq_true rfl, Nat.le_of_ble_eq_true rfl⟩ ⟨rfl, rfl⟩ hfH rfl rfl d_L_law_612 ?_
  refine b_lstore X (lv' := [(0, .ref b), (1, .ref (xa σ 0)), (2, .ref (xa τ 0)), (3, .ref o), (4, .int (nI i)), (5, .int k5), (6, .long b6)]) d_L_law_615 (by decide) [1, 2, 3, 4, 5, 6, 0] rfl ?_
  refine b_aload_n X d_L_law_617 2 rfl rfl ?_
  refine b_callVM X cf_M_thrown ci_M_thrown ml_L_75 (ct_M_thrown_ G (xa τ, qM)) 0 rfl rfl (As := []) (rest := []) rfl (Nat.le_of_ble_eq_true rfl) ⟨Nat.le_of_ble_eq_true rfl, Nat.le_of_ble_eq_true rfl⟩ ⟨rfl, rfl⟩ hfH rfl rfl d_L_law_618 ?_
  refine b_iload X d_L_law_621 5 rfl ?_
  refine b_icmp_eq X (tgt := 628) d_L_law_623 (by decide) (fun _ => ?_) (fun h => absurd c623 h)
  refine b_iload X d_L_law_628 5 rfl ?_
  refine b_if_ne X (tgt := 644) d_L_law_630 (by decide) (fun _ => ?_) (fun h => absurd h hk)
  refine b_goto X (tgt := 944) d_L_law_644 (by decide) ?_
  refine b_iinc X (lv' := [(0, .ref b), (1, .ref (xa σ 0)), (2, .ref (xa τ 0)), (3, .ref o), (4, .int (nI (i + 3)))]) d_L_law_944 4 rfl (v := nI (i + 3)) (nI_add i 3) (by decide) [1, 2, 3, 4, 0] rfl ?_
  refine b_goto X (tgt := 23) d_L_law_947 (by decide) ?_
  exact k
theorem lc_13n1 {K : KX} {G : GG} {Q : State → Prop} {b L : Nat} {xs : Nat → Int32} (X : Bd K G [] "FirstTreesLaw" code 8 ret room_1) (hnf : nf (ks K)) (hX : va_X b L xs (ks K) (ks K).heap) (hbl : b < (ks K).heap.size) (hL : L < 2 ^ 31) (σ τ : St) (o : Nat) (f : Nat → Int64) (i cells slots : Nat) (hgo : ¬ nI L - 3 < nI i) (hi : i + 3 ≤ L) (hcase : xs i &&& 31 = nI 13) (rH : Room) (k5 : Int32) (f' : Nat → Int64) (w' : va_W) (b6 : Int32) (qM : Sq) (tH : CtH y_L_isNothing c_L_isNothing 4 (some .int) hs_L_isNothing rH G [.ref (xa σ 0), .int (xs (i + 1)), .ref o] (ow G o f :: WC G σ) (eqp (some (.int k5)) (ow G o f' :: w'))) (hRH : rH.frames + 1 ≤ 11 ∧ 8 + (4 + 11) + rH.locals ≤ 384) (hfH : cells + rH.cells ≤ 601024 ∧ slots + rH.slots ≤ 7293034) (tM : Ct y_M_isNothing c_M_isNothing 2 (some .boolean) rm_M_isNothing G [.ref (xa τ 0), .int (xs (i + 1))] (WM G τ) (eqp (some (.int b6)) (WM G (xa τ, qM)))) (c678 : (xi (xa τ, qM) 0 0) = k5) (hk : k5 = 0) (hb : ¬ b6 = 0) (c701 : (f' 0) = 1) (k : Lb K G [] Q 8 23 [(0, .ref b), (1, .ref (xa σ 0)), (2, .ref (xa τ 0)), (3, .ref o), (4, .int (nI (i + 3)))] [] (ow G o f' :: (w' ++ WM G (xa τ, qM))) (cells + rH.cells) (slots + rH.slots)) : Lb K G [] Q 8 23 [(0, .ref b), (1, .ref (xa σ 0)), (2, .ref (xa τ 0)), (3, .ref o), (4, .int (nI i))] [] (ow G o f :: (WC G σ ++ WM G τ)) cells slots := by
  refine b_iload X d_L_law_23 4 rfl ?_
  refine b_aload_n X d_L_law_25 0 rfl rfl ?_
  refine b_slen X hX hbl d_L_law_26 ?_
  refine b_iconst X (v := 3) d_L_law_27 (by decide) ?_
  refine b_isub X d_L_law_28 ?_
  refine b_icmp_gt X (tgt := 950) d_L_law_29 (by decide) (fun h => absurd h hgo) (fun _ => ?_)
  refine b_aload_n X d_L_law_32 0 rfl rfl ?_
  refine b_iload X d_L_law_33 4 rfl ?_
  refine b_sld X hX hbl i rfl (by omega) hL d_L_law_35 ?_
  refine b_bipush X (v := 31) d_L_law_36 (by decide) ?_
  refine b_iand X d_L_law_38 ?_
  refine Lb.eq (st' := [.int (nI 13)]) rfl (by rw [hcase]) rfl ?_
  refine b_tableIn X (tgt := 647) d_L_law_39 (by decide) (by decide) rfl (by decide) ?_
  refine b_aload_n X d_L_law_647 1 rfl rfl ?_
  refine b_aload_n X d_L_law_648 0 rfl rfl ?_
  refine b_iload X d_L_law_649 4 rfl ?_
  refine b_iconst X (v := 1) d_L_law_651 (by decide) ?_
  refine b_iadd X d_L_law_652 ?_
  refine b_sld X hX hbl (i + 1) (nI_add i 1) (by omega) hL d_L_law_653 ?_
  refine b_aload_n X d_L_law_654 3 rfl rfl ?_
  refine b_callHM X hnf cfh_L_isNothing ml_L_121 tH (As := [.ref (xa σ 0), .int (xs (i + 1)), .ref o]) (rest := []) rfl (Nat.le_of_ble_eq_true rfl) hRH hfH rfl rfl d_L_law_655 ?_
  refine b_istore X (lv' := [(0, .ref b), (1, .ref (xa σ 0)), (2, .ref (xa τ 0)), (3, .ref o), (4, .int (nI i)), (5, .int k5)]) d_L_law_658 (by decide) [1, 2, 3, 4, 5, 0] rfl ?_
  refine b_aload_n X d_L_law_660 2 rfl rfl ?_
  refine b_aload_n X d_L_law_661 0 rfl rfl ?_
  refine b_iload X d_L_law_662 4 rfl ?_
  refine b_iconst X (v := 1) d_L_law_664 (by decide) ?_
  refine b_iadd X d_L_law_665 ?_
  refine b_sld X hX hbl (i + 1) (nI_add i 1) (by omega) hL d_L_law_666 ?_
  refine b_callVM X cf_M_isNothing ci_M_isNothing ml_L_123 tM 0 rfl rfl (As := [.int (xs (i + 1))]) (rest := []) rfl (Nat.le_of_ble_eq_true rfl) ⟨Nat.le_of_ble_eq_true rfl, Nat.le_of_ble_eq_true rfl⟩ ⟨rfl, rfl⟩ hfH rfl rfl d_L_law_667 ?_
  refine b_istore X (lv' := [(0, .ref b), (1, .ref (xa σ 0)), (2, .ref (xa τ 0)), (3, .ref o), (4, .int (nI i)), (5, .int k5), (6, .int b6)]) d_L_law_670 (by decide) [1, 2, 3, 4, 5, 6, 0] rfl ?_
  refine b_aload_n X d_L_law_672 2 rfl rfl ?_
  refine b_callVM X cf_M_thrown ci_M_thrown ml_L_75 (ct_M_thrown_ G (xa τ, qM)) 0 rfl rfl (As := []) (rest := []) rfl (Nat.le_of_ble_eq_true rfl) ⟨Nat.le_of_ble_eq_true rfl, Nat.le_of_ble_eq_true rfl⟩ ⟨rfl, rfl⟩ hfH rfl rfl d_L_law_673 ?_
  refine b_iload X d_L_law_676 5 rfl ?_
  refine b_icmp_eq X (tgt := 683) d_L_law_678 (by decide) (fun _ => ?_) (fun h => absurd c678 h)
  refine b_iload X d_L_law_683 5 rfl ?_
  refine b_if_ne X (tgt := 707) d_L_law_685 (by decide) (fun h => absurd hk h) (fun _ => ?_)
  refine b_aload_n X d_L_law_688 3 rfl rfl ?_
  refine b_iconst X (v := 0) d_L_law_689 (by decide) ?_
  refine b_lald X 0 rfl (by decide) 0 rfl (by decide) d_L_law_690 ?_
  refine b_iload X d_L_law_691 6 rfl ?_
  refine b_if_eq X (tgt := 700) d_L_law_693 (by decide) (fun h => absurd h hb) (fun _ => ?_)
  refine b_lconst X (v := 1) d_L_law_696 rfl ?_
  refine b_goto X (tgt := 701) d_L_law_697 (by decide) ?_
  refine b_l_eq X (tgt := 707) d_L_law_701 d_L_law_702 (by decide) (fun _ => ?_) (fun h => absurd c701 h)
  refine b_goto X (tgt := 944) d_L_law_707 (by decide) ?_
  refine b_iinc X (lv' := [(0, .ref b), (1, .ref (xa σ 0)), (2, .ref (xa τ 0)), (3, .ref o), (4, .int (nI (i + 3)))]) d_L_law_944 4 rfl (v := nI (i + 3)) (nI_add i 3) (by decide) [1, 2, 3, 4, 0] rfl ?_
  refine b_goto X (tgt := 23) d_L_law_947 (by decide) ?_
  exact k
theorem lc_13n0 {K : KX} {G : GG} {Q : State → Prop} {b L : Nat} {xs : Nat → Int32} (X : Bd K G [] "FirstTreesLaw" code 8 ret room_1) (hnf : nf (ks K)) (hX : va_X b L xs (ks K) (ks K).heap) (hbl : b < (ks K).heap.size) (hL : L < 2 ^ 31) (σ τ : St) (o : Nat) (f : Nat → Int64) (i cells slots : Nat) (hgo : ¬ nI L - 3 < nI i) (hi : i + 3 ≤ L) (hcase : xs i &&& 31 = nI 13) (rH : Room) (k5 : Int32) (f' : Nat → Int64) (w' : va_W) (b6 : Int32) (qM : Sq) (tH : CtH y_L_isNothing c_L_isNothing 4 (some .int) hs_L_isNothing rH G [.ref (xa σ 0), .int (xs (i + 1)), .ref o] (ow G o f :: WC G σ) (eqp (some (.int k5)) (ow G o f' :: w'))) (hRH : rH.frames + 1 ≤ 11 ∧ 8 + (4 + 11) + rH.locals ≤ 384) (hfH : cells + rH.cells ≤ 601024 ∧ slots + rH.slots ≤ 7293034) (tM : Ct y_M_isNothing c_M_isNothing 2 (some .boolean) rm_M_isNothing G [.ref (xa τ 0), .int (xs (i + 1))] (WM G τ) (eqp (some (.int b6)) (WM G (xa τ, qM)))) (c678 : (xi (xa τ, qM) 0 0) = k5) (hk : k5 = 0) (hb : b6 = 0) (c701 : (f' 0) = 0) (k : Lb K G [] Q 8 23 [(0, .ref b), (1, .ref (xa σ 0)), (2, .ref (xa τ 0)), (3, .ref o), (4, .int (nI (i + 3)))] [] (ow G o f' :: (w' ++ WM G (xa τ, qM))) (cells + rH.cells) (slots + rH.slots)) : Lb K G [] Q 8 23 [(0, .ref b), (1, .ref (xa σ 0)), (2, .ref (xa τ 0)), (3, .ref o), (4, .int (nI i))] [] (ow G o f :: (WC G σ ++ WM G τ)) cells slots := by
  refine b_iload X d_L_law_23 4 rfl ?_
  refine b_aload_n X d_L_law_25 0 rfl rfl ?_
  refine b_slen X hX hbl d_L_law_26 ?_
  refine b_iconst X (v := 3) d_L_law_27 (by decide) ?_
  refine b_isub X d_L_law_28 ?_
  refine b_icmp_gt X (tgt := 950) d_L_law_29 (by decide) (fun h => absurd h hgo) (fun _ => ?_)
  refine b_aload_n X d_L_law_32 0 rfl rfl ?_
  refine b_iload X d_L_law_33 4 rfl ?_
  refine b_sld X hX hbl i rfl (by omega) hL d_L_law_35 ?_
  refine b_bipush X (v := 31) d_L_law_36 (by decide) ?_
  refine b_iand X d_L_law_38 ?_
  refine Lb.eq (st' := [.int (nI 13)]) rfl (by rw [hcase]) rfl ?_
  refine b_tableIn X (tgt := 647) d_L_law_39 (by decide) (by decide) rfl (by decide) ?_
  refine b_aload_n X d_L_law_647 1 rfl rfl ?_
  refine b_aload_n X d_L_law_648 0 rfl rfl ?_
  refine b_iload X d_L_law_649 4 rfl ?_
  refine b_iconst X (v := 1) d_L_law_651 (by decide) ?_
  refine b_iadd X d_L_law_652 ?_
  refine b_sld X hX hbl (i + 1) (nI_add i 1) (by omega) hL d_L_law_653 ?_
  refine b_aload_n X d_L_law_654 3 rfl rfl ?_
  refine b_callHM X hnf cfh_L_isNothing ml_L_121 tH (As := [.ref (xa σ 0), .int (xs (i + 1)), .ref o]) (rest := []) rfl (Nat.le_of_ble_eq_true rfl) hRH hfH rfl rfl d_L_law_655 ?_
  refine b_istore X (lv' := [(0, .ref b), (1, .ref (xa σ 0)), (2, .ref (xa τ 0)), (3, .ref o), (4, .int (nI i)), (5, .int k5)]) d_L_law_658 (by decide) [1, 2, 3, 4, 5, 0] rfl ?_
  refine b_aload_n X d_L_law_660 2 rfl rfl ?_
  refine b_aload_n X d_L_law_661 0 rfl rfl ?_
  refine b_iload X d_L_law_662 4 rfl ?_
  refine b_iconst X (v := 1) d_L_law_664 (by decide) ?_
  refine b_iadd X d_L_law_665 ?_
  refine b_sld X hX hbl (i + 1) (nI_add i 1) (by omega) hL d_L_law_666 ?_
  refine b_callVM X cf_M_isNothing ci_M_isNothing ml_L_123 tM 0 rfl rfl (As := [.int (xs (i + 1))]) (rest := []) rfl (Nat.le_of_ble_eq_true rfl) ⟨Nat.le_of_ble_eq_true rfl, Nat.le_of_ble_eq_true rfl⟩ ⟨rfl, rfl⟩ hfH rfl rfl d_L_law_667 ?_
  refine b_istore X (lv' := [(0, .ref b), (1, .ref (xa σ 0)), (2, .ref (xa τ 0)), (3, .ref o), (4, .int (nI i)), (5, .int k5), (6, .int b6)]) d_L_law_670 (by decide) [1, 2, 3, 4, 5, 6, 0] rfl ?_
  refine b_aload_n X d_L_law_672 2 rfl rfl ?_
  refine b_callVM X cf_M_thrown ci_M_thrown ml_L_75 (ct_M_thrown_ G (xa τ, qM)) 0 rfl rfl (As := []) (rest := []) rfl (Nat.le_of_ble_eq_true rfl) ⟨Nat.le_of_ble_eq_true rfl, Nat.le_of_ble_eq_true rfl⟩ ⟨rfl, rfl⟩ hfH rfl rfl d_L_law_673 ?_
  refine b_iload X d_L_law_676 5 rfl ?_
  refine b_icmp_eq X (tgt := 683) d_L_law_678 (by decide) (fun _ => ?_) (fun h => absurd c678 h)
  refine b_iload X d_L_law_683 5 rfl ?_
  refine b_if_ne X (tgt := 707) d_L_law_685 (by decide) (fun h => absurd hk h) (fun _ => ?_)
  refine b_aload_n X d_L_law_688 3 rfl rfl ?_
  refine b_iconst X (v := 0) d_L_law_689 (by decide) ?_
  refine b_lald X 0 rfl (by decide) 0 rfl (by decide) d_L_law_690 ?_
  refine b_iload X d_L_law_691 6 rfl ?_
  refine b_if_eq X (tgt := 700) d_L_law_693 (by decide) (fun _ => ?_) (fun h => absurd hb h)
  refine b_lconst X (v := 0) d_L_law_700 rfl ?_
  refine b_l_eq X (tgt := 707) d_L_law_701 d_L_law_702 (by decide) (fun _ => ?_) (fun h => absurd c701 h)
  refine b_goto X (tgt := 944) d_L_law_707 (by decide) ?_
  refine b_iinc X (lv' := [(0, .ref b), (1, .ref (xa σ 0)), (2, .ref (xa τ 0)), (3, .ref o), (4, .int (nI (i + 3)))]) d_L_law_944 4 rfl (v := nI (i + 3)) (nI_add i 3) (by decide) [1, 2, 3, 4, 0] rfl ?_
  refine b_goto X (tgt := 23) d_L_law_947 (by decide) ?_
  exact k
theorem lc_13z {K : KX} {G : GG} {Q : State → Prop} {b L : Nat} {xs : Nat → Int32} (X : Bd K G [] "FirstTreesLaw" code 8 ret room_1) (hnf : nf (ks K)) (hX : va_X b L xs (ks K) (ks K).heap) (hbl : b < (ks K).heap.size) (hL : L < 2 ^ 31) (σ τ : St) (o : Nat) (f : Nat → Int64) (i cells slots : Nat) (hgo : ¬ nI L - 3 < nI i) (hi : i + 3 ≤ L) (hcase : xs i &&& 31 = nI 13) (rH : Room) (k5 : Int32) (f' : Nat → Int64) (w' : va_W) (b6 : Int32) (qM : Sq) (tH : CtH y_L_isNothing c_L_isNothing 4 (some .int) hs_L_isNothing rH G [.ref (xa σ 0), .int (xs (i + 1)), .ref o] (ow G o f :: WC G σ) (eqp (some (.int k5)) (ow G o f' :: w'))) (hRH : rH.frames + 1 ≤ 11 ∧ 8 + (4 + 11) + rH.locals ≤ 384) (hfH : cells + rH.cells ≤ 601024 ∧ slots + rH.slots ≤ 7293034) (tM : Ct y_M_isNothing c_M_isNothing 2 (some .boolean) rm_M_isNothing G [.ref (xa τ 0), .int (xs (i + 1))] (WM G τ) (eqp (some (.int b6)) (WM G (xa τ, qM)))) (c678 : (xi (xa τ, qM) 0 0) = k5) (hk : ¬ k5 = 0) (k : Lb K G [] Q 8 23 [(0, .ref b), (1, .ref (xa σ 0)), (2, .ref (xa τ 0)), (3, .ref o), (4, .int (nI (i + 3)))] [] (ow G o f' :: (w' ++ WM G (xa τ, qM))) (cells + rH.cells) (slots + rH.slots)) : Lb K G [] Q 8 23 [(0, .ref b), (1, .ref (xa σ 0)), (2, .ref (xa τ 0)), (3, .ref o), (4, .int (nI i))] [] (ow G o f :: (WC G σ ++ WM G τ)) cells slots := by
  refine b_iload X d_L_law_23 4 rfl ?_
  refine b_aload_n X d_L_law_25 0 rfl rfl ?_
  refine b_slen X hX hbl d_L_law_26 ?_
  refine b_iconst X (v := 3) d_L_law_27 (by decide) ?_
  refine b_isub X d_L_law_28 ?_
  refine b_icmp_gt X (tgt := 950) d_L_law_29 (by decide) (fun h => absurd h hgo) (fun _ => ?_)
  refine b_aload_n X d_L_law_32 0 rfl rfl ?_
  refine b_iload X d_L_law_33 4 rfl ?_
  refine b_sld X hX hbl i rfl (by omega) hL d_L_law_35 ?_
  refine b_bipush X (v := 31) d_L_law_36 (by decide) ?_
  refine b_iand X d_L_law_38 ?_
  refine Lb.eq (st' := [.int (nI 13)]) rfl (by rw [hcase]) rfl ?_
  refine b_tableIn X (tgt := 647) d_L_law_39 (by decide) (by decide) rfl (by decide) ?_
  refine b_aload_n X d_L_law_647 1 rfl rfl ?_
  refine b_aload_n X d_L_law_648 0 rfl rfl ?_
  refine b_iload X d_L_law_649 4 rfl ?_
  refine b_iconst X (v := 1) d_L_law_651 (by decide) ?_
  refine b_iadd X d_L_law_652 ?_
  refine b_sld X hX hbl (i + 1) (nI_add i 1) (by omega) hL d_L_law_653 ?_
  refine b_aload_n X d_L_law_654 3 rfl rfl ?_
  refine b_callHM X hnf cfh_L_isNothing ml_L_121 tH (As := [.ref (xa σ 0), .int (xs (i + 1)), .ref o]) (rest := []) rfl (Nat.le_of_ble_eq_true rfl) hRH hfH rfl rfl d_L_law_655 ?_
  refine b_istore X (lv' := [(0, .ref b), (1, .ref (xa σ 0)), (2, .ref (xa τ 0)), (3, .ref o), (4, .int (nI i)), (5, .int k5)]) d_L_law_658 (by decide) [1, 2, 3, 4, 5, 0] rfl ?_
  refine b_aload_n X d_L_law_660 2 rfl rfl ?_
  refine b_aload_n X d_L_law_661 0 rfl rfl ?_
  refine b_iload X d_L_law_662 4 rfl ?_
  refine b_iconst X (v := 1) d_L_law_664 (by decide) ?_
  refine b_iadd X d_L_law_665 ?_
  refine b_sld X hX hbl (i + 1) (nI_add i 1) (by omega) hL d_L_law_666 ?_
  refine b_callVM X cf_M_isNothing ci_M_isNothing ml_L_123 tM 0 rfl rfl (As := [.int (xs (i + 1))]) (rest := []) rfl (Nat.le_of_ble_eq_true rfl) ⟨Nat.le_of_ble_eq_true rfl, Nat.le_of_ble_eq_true rfl⟩ ⟨rfl, rfl⟩ hfH rfl rfl d_L_law_667 ?_
  refine b_istore X (lv' := [(0, .ref b), (1, .ref (xa σ 0)), (2, .ref (xa τ 0)), (3, .ref o), (4, .int (nI i)), (5, .int k5), (6, .int b6)]) d_L_law_670 (by decide) [1, 2, 3, 4, 5, 6, 0] rfl ?_
  refine b_aload_n X d_L_law_672 2 rfl rfl ?_
  refine b_callVM X cf_M_thrown ci_M_thrown ml_L_75 (ct_M_thrown_ G (xa τ, qM)) 0 rfl rfl (As := []) (rest := []) rfl (Nat.le_of_ble_eq_true rfl) ⟨Nat.le_of_ble_eq_true rfl, Nat.le_of_ble_eq_true rfl⟩ ⟨rfl, rfl⟩ hfH rfl rfl d_L_law_673 ?_
  refine b_iload X d_L_law_676 5 rfl ?_
  refine b_icmp_eq X (tgt := 683) d_L_law_678 (by decide) (fun _ => ?_) (fun h => absurd c678 h)
  refine b_iload X d_L_law_683 5 rfl ?_
  refine b_if_ne X (tgt := 707) d_L_law_685 (by decide) (fun _ => ?_) (fun h => absurd h hk)
  refine b_goto X (tgt := 944) d_L_law_707 (by decide) ?_
  refine b_iinc X (lv' := [(0, .ref b), (1, .ref (xa σ 0)), (2, .ref (xa τ 0)), (3, .ref o), (4, .int (nI (i + 3)))]) d_L_law_944 4 rfl (v := nI (i + 3)) (nI_add i 3) (by decide) [1, 2, 3, 4, 0] rfl ?_
  refine b_goto X (tgt := 23) d_L_law_947 (by decide) ?_
  exact k
theorem lc_14n {K : KX} {G : GG} {Q : State → Prop} {b L : Nat} {xs : Nat → Int32} (X : Bd K G [] "FirstTreesLaw" code 8 ret room_1) (hnf : nf (ks K)) (hX : va_X b L xs (ks K) (ks K).heap) (hbl : b < (ks K).heap.size) (hL : L < 2 ^ 31) (σ τ : St) (o : Nat) (f : Nat → Int64) (i cells slots : Nat) (hgo : ¬ nI L - 3 < nI i) (hi : i + 3 ≤ L) (hcase : xs i &&& 31 = nI 14) (rH : Room) (k5 : Int32) (f' : Nat → Int64) (w' : va_W) (b6 : Int64) (qM : Sq) (tH : CtH y_L_first c_L_first 4 (some .int) hs_L_first rH G [.ref (xa σ 0), .int (xs (i + 1)), .ref o] (ow G o f :: WC G σ) (eqp (some (.int k5)) (ow G o f' :: w'))) (hRH : rH.frames + 1 ≤ 11 ∧ 8 + (4 + 11) + rH.locals ≤ 384) (hfH : cells + rH.cells ≤ 601024 ∧ slots + rH.slots ≤ 7293034) (tM : Ct y_M_first c_M_first 2 (some .long) rm_M_first G [.ref (xa τ 0), .int (xs (i + 1))] (WM G τ) (eqp (some (.long b6)) (WM G (xa τ, qM)))) (c741 : (xi (xa τ, qM) 0 0) = k5) (hk : k5 = 0) (c756 : (f' 0) = b6) (k : Lb K G [] Q 8 23 [(0, .ref b), (1, .ref (xa σ 0)), (2, .ref (xa τ 0)), (3, .ref o), (4, .int (nI (i + 3)))] [] (ow G o f' :: (w' ++ WM G (xa τ, qM))) (cells + rH.cells) (slots + rH.slots)) : Lb K G [] Q 8 23 [(0, .ref b), (1, .ref (xa σ 0)), (2, .ref (xa τ 0)), (3, .ref o), (4, .int (nI i))] [] (ow G o f :: (WC G σ ++ WM G τ)) cells slots := by
  refine b_iload X d_L_law_23 4 rfl ?_
  refine b_aload_n X d_L_law_25 0 rfl rfl ?_
  refine b_slen X hX hbl d_L_law_26 ?_
  refine b_iconst X (v := 3) d_L_law_27 (by decide) ?_
  refine b_isub X d_L_law_28 ?_
  refine b_icmp_gt X (tgt := 950) d_L_law_29 (by decide) (fun h => absurd h hgo) (fun _ => ?_)
  refine b_aload_n X d_L_law_32 0 rfl rfl ?_
  refine b_iload X d_L_law_33 4 rfl ?_
  refine b_sld X hX hbl i rfl (by omega) hL d_L_law_35 ?_
  refine b_bipush X (v := 31) d_L_law_36 (by decide) ?_
  refine b_iand X d_L_law_38 ?_
  refine Lb.eq (st' := [.int (nI 14)]) rfl (by rw [hcase]) rfl ?_
  refine b_tableIn X (tgt := 710) d_L_law_39 (by decide) (by decide) rfl (by decide) ?_
  refine b_aload_n X d_L_law_710 1 rfl rfl ?_
  refine b_aload_n X d_L_law_711 0 rfl rfl ?_
  refine b_iload X d_L_law_712 4 rfl ?_
  refine b_iconst X (v := 1) d_L_law_714 (by decide) ?_
  refine b_iadd X d_L_law_715 ?_
  refine b_sld X hX hbl (i + 1) (nI_add i 1) (by omega) hL d_L_law_716 ?_
  refine b_aload_n X d_L_law_717 3 rfl rfl ?_
  refine b_callHM X hnf cfh_L_first ml_L_124 tH (As := [.ref (xa σ 0), .int (xs (i + 1)), .ref o]) (rest := []) rfl (Nat.le_of_ble_eq_true rfl) hRH hfH rfl rfl d_L_law_718 ?_
  refine b_istore X (lv' := [(0, .ref b), (1, .ref (xa σ 0)), (2, .ref (xa τ 0)), (3, .ref o), (4, .int (nI i)), (5, .int k5)]) d_L_law_721 (by decide) [1, 2, 3, 4, 5, 0] rfl ?_
  refine b_aload_n X d_L_law_723 2 rfl rfl ?_
  refine b_aload_n X d_L_law_724 0 rfl rfl ?_
  refine b_iload X d_L_law_725 4 rfl ?_
  refine b_iconst X (v := 1) d_L_law_727 (by decide) ?_
  refine b_iadd X d_L_law_728 ?_
  refine b_sld X hX hbl (i + 1) (nI_add i 1) (by omega) hL d_L_law_729 ?_
  refine b_callVM X cf_M_first ci_M_first ml_L_126 tM 0 rfl rfl (As := [.int (xs (i + 1))]) (rest := []) rfl (Nat.le_of_ble_eq_true rfl) ⟨Nat.le_of_ble_eq_true rfl, Nat.le_of_ble_eq_true rfl⟩ ⟨rfl, rfl⟩ hfH rfl rfl d_L_law_730 ?_
  refine b_lstore X (lv' := [(0, .ref b), (1, .ref (xa σ 0)), (2, .ref (xa τ 0)), (3, .ref o), (4, .int (nI i)), (5, .int k5), (6, .long b6)]) d_L_law_733 (by decide) [1, 2, 3, 4, 5, 6, 0] rfl ?_
  refine b_aload_n X d_L_law_735 2 rfl rfl ?_
  refine b_callVM X cf_M_thrown ci_M_thrown ml_L_75 (ct_M_thrown_ G (xa τ, qM)) 0 rfl rfl (As := []) (rest := []) rfl (Nat.le_of_ble_eq_true rfl) ⟨Nat.le_of_ble_eq_true rfl, Nat.le_of_ble_eq_true rfl⟩ ⟨rfl, rfl⟩ hfH rfl rfl d_L_law_736 ?_
  refine b_iload X d_L_law_739 5 rfl ?_
  refine b_icmp_eq X (tgt := 746) d_L_law_741 (by decide) (fun _ => ?_) (fun h => absurd c741 h)
  refine b_iload X d_L_law_746 5 rfl ?_
  refine b_if_ne X (tgt := 762) d_L_law_748 (by decide) (fun h => absurd hk h) (fun _ => ?_)
  refine b_aload_n X d_L_law_751 3 rfl rfl ?_
  refine b_iconst X (v := 0) d_L_law_752 (by decide) ?_
  refine b_lald X 0 rfl (by decide) 0 rfl (by decide) d_L_law_753 ?_
  refine b_lload X d_L_law_754 6 rfl ?_
  refine b_l_eq X (tgt := 762) d_L_law_756 d_L_law_757 (by decide) (fun _ => ?_) (fun h => absurd c756 h)
  refine b_goto X (tgt := 944) d_L_law_762 (by decide) ?_
  refine b_iinc X (lv' := [(0, .ref b), (1, .ref (xa σ 0)), (2, .ref (xa τ 0)), (3, .ref o), (4, .int (nI (i + 3)))]) d_L_law_944 4 rfl (v := nI (i + 3)) (nI_add i 3) (by decide) [1, 2, 3, 4, 0] rfl ?_
  refine b_goto X (tgt := 23) d_L_law_947 (by decide) ?_
  exact k
theorem lc_14z {K : KX} {G : GG} {Q : State → Prop} {b L : Nat} {xs : Nat → Int32} (X : Bd K G [] "FirstTreesLaw" code 8 ret room_1) (hnf : nf (ks K)) (hX : va_X b L xs (ks K) (ks K).heap) (hbl : b < (ks K).heap.size) (hL : L < 2 ^ 31) (σ τ : St) (o : Nat) (f : Nat → Int64) (i cells slots : Nat) (hgo : ¬ nI L - 3 < nI i) (hi : i + 3 ≤ L) (hcase : xs i &&& 31 = nI 14) (rH : Room) (k5 : Int32) (f' : Nat → Int64) (w' : va_W) (b6 : Int64) (qM : Sq) (tH : CtH y_L_first c_L_first 4 (some .int) hs_L_first rH G [.ref (xa σ 0), .int (xs (i + 1)), .ref o] (ow G o f :: WC G σ) (eqp (some (.int k5)) (ow G o f' :: w'))) (hRH : rH.frames + 1 ≤ 11 ∧ 8 + (4 + 11) + rH.locals ≤ 384) (hfH : cells + rH.cells ≤ 601024 ∧ slots + rH.slots ≤ 7293034) (tM : Ct y_M_first c_M_first 2 (some .long) rm_M_first G [.ref (xa τ 0), .int (xs (i + 1))] (WM G τ) (eqp (some (.long b6)) (WM G (xa τ, qM)))) (c741 : (xi (xa τ, qM) 0 0) = k5) (hk : ¬ k5 = 0) (k : Lb K G [] Q 8 23 [(0, .ref b), (1, .ref (xa σ 0)), (2, .ref (xa τ 0)), (3, .ref o), (4, .int (nI (i + 3)))] [] (ow G o f' :: (w' ++ WM G (xa τ, qM))) (cells + rH.cells) (slots + rH.slots)) : Lb K G [] Q 8 23 [(0, .ref b), (1, .ref (xa σ 0)), (2, .ref (xa τ 0)), (3, .ref o), (4, .int (nI i))] [] (ow G o f :: (WC G σ ++ WM G τ)) cells slots := by
  refine b_iload X d_L_law_23 4 rfl ?_
  refine b_aload_n X d_L_law_25 0 rfl rfl ?_
  refine b_slen X hX hbl d_L_law_26 ?_
  refine b_iconst X (v := 3) d_L_law_27 (by decide) ?_
  refine b_isub X d_L_law_28 ?_
  refine b_icmp_gt X (tgt := 950) d_L_law_29 (by decide) (fun h => absurd h hgo) (fun _ => ?_)
  refine b_aload_n X d_L_law_32 0 rfl rfl ?_
  refine b_iload X d_L_law_33 4 rfl ?_
  refine b_sld X hX hbl i rfl (by omega) hL d_L_law_35 ?_
  refine b_bipush X (v := 31) d_L_law_36 (by decide) ?_
  refine b_iand X d_L_law_38 ?_
  refine Lb.eq (st' := [.int (nI 14)]) rfl (by rw [hcase]) rfl ?_
  refine b_tableIn X (tgt := 710) d_L_law_39 (by decide) (by decide) rfl (by decide) ?_
  refine b_aload_n X d_L_law_710 1 rfl rfl ?_
  refine b_aload_n X d_L_law_711 0 rfl rfl ?_
  refine b_iload X d_L_law_712 4 rfl ?_
  refine b_iconst X (v := 1) d_L_law_714 (by decide) ?_
  refine b_iadd X d_L_law_715 ?_
  refine b_sld X hX hbl (i + 1) (nI_add i 1) (by omega) hL d_L_law_716 ?_
  refine b_aload_n X d_L_law_717 3 rfl rfl ?_
  refine b_callHM X hnf cfh_L_first ml_L_124 tH (As := [.ref (xa σ 0), .int (xs (i + 1)), .ref o]) (rest := []) rfl (Nat.le_of_ble_eq_true rfl) hRH hfH rfl rfl d_L_law_718 ?_
  refine b_istore X (lv' := [(0, .ref b), (1, .ref (xa σ 0)), (2, .ref (xa τ 0)), (3, .ref o), (4, .int (nI i)), (5, .int k5)]) d_L_law_721 (by decide) [1, 2, 3, 4, 5, 0] rfl ?_
  refine b_aload_n X d_L_law_723 2 rfl rfl ?_
  refine b_aload_n X d_L_law_724 0 rfl rfl ?_
  refine b_iload X d_L_law_725 4 rfl ?_
  refine b_iconst X (v := 1) d_L_law_727 (by decide) ?_
  refine b_iadd X d_L_law_728 ?_
  refine b_sld X hX hbl (i + 1) (nI_add i 1) (by omega) hL d_L_law_729 ?_
  refine b_callVM X cf_M_first ci_M_first ml_L_126 tM 0 rfl rfl (As := [.int (xs (i + 1))]) (rest := []) rfl (Nat.le_of_ble_eq_true rfl) ⟨Nat.le_of_ble_eq_true rfl, Nat.le_of_ble_eq_true rfl⟩ ⟨rfl, rfl⟩ hfH rfl rfl d_L_law_730 ?_
  refine b_lstore X (lv' := [(0, .ref b), (1, .ref (xa σ 0)), (2, .ref (xa τ 0)), (3, .ref o), (4, .int (nI i)), (5, .int k5), (6, .long b6)]) d_L_law_733 (by decide) [1, 2, 3, 4, 5, 6, 0] rfl ?_
  refine b_aload_n X d_L_law_735 2 rfl rfl ?_
  refine b_callVM X cf_M_thrown ci_M_thrown ml_L_75 (ct_M_thrown_ G (xa τ, qM)) 0 rfl rfl (As := []) (rest := []) rfl (Nat.le_of_ble_eq_true rfl) ⟨Nat.le_of_ble_eq_true rfl, Nat.le_of_ble_eq_true rfl⟩ ⟨rfl, rfl⟩ hfH rfl rfl d_L_law_736 ?_
  refine b_iload X d_L_law_739 5 rfl ?_
  refine b_icmp_eq X (tgt := 746) d_L_law_741 (by decide) (fun _ => ?_) (fun h => absurd c741 h)
  refine b_iload X d_L_law_746 5 rfl ?_
  refine b_if_ne X (tgt := 762) d_L_law_748 (by decide) (fun _ => ?_) (fun h => absurd h hk)
  refine b_goto X (tgt := 944) d_L_law_762 (by decide) ?_
  refine b_iinc X (lv' := [(0, .ref b), (1, .ref (xa σ 0)), (2, .ref (xa τ 0)), (3, .ref o), (4, .int (nI (i + 3)))]) d_L_law_944 4 rfl (v := nI (i + 3)) (nI_add i 3) (by decide) [1, 2, 3, 4, 0] rfl ?_
  refine b_goto X (tgt := 23) d_L_law_947 (by decide) ?_
  exact k
theorem lc_15n {K : KX} {G : GG} {Q : State → Prop} {b L : Nat} {xs : Nat → Int32} (X : Bd K G [] "FirstTreesLaw" code 8 ret room_1) (hnf : nf (ks K)) (hX : va_X b L xs (ks K) (ks K).heap) (hbl : b < (ks K).heap.size) (hL : L < 2 ^ 31) (σ τ : St) (o : Nat) (f : Nat → Int64) (i cells slots : Nat) (hgo : ¬ nI L - 3 < nI i) (hi : i + 3 ≤ L) (hcase : xs i &&& 31 = nI 15) (rH : Room) (k5 : Int32) (f' : Nat → Int64) (w' : va_W) (b6 : Int64) (qM : Sq) (tH : CtH y_L_following c_L_following 4 (some .int) hs_L_following rH G [.ref (xa σ 0), .int (xs (i + 1)), .ref o] (ow G o f :: WC G σ) (eqp (some (.int k5)) (ow G o f' :: w'))) (hRH : rH.frames + 1 ≤ 11 ∧ 8 + (4 + 11) + rH.locals ≤ 384) (hfH : cells + rH.cells ≤ 601024 ∧ slots + rH.slots ≤ 7293034) (tM : Ct y_M_following c_M_following 2 (some .long) rm_M_following G [.ref (xa τ 0), .int (xs (i + 1))] (WM G τ) (eqp (some (.long b6)) (WM G (xa τ, qM)))) (c796 : (xi (xa τ, qM) 0 0) = k5) (hk : k5 = 0) (c811 : (f' 0) = b6) (k : Lb K G [] Q 8 23 [(0, .ref b), (1, .ref (xa σ 0)), (2, .ref (xa τ 0)), (3, .ref o), (4, .int (nI (i + 3)))] [] (ow G o f' :: (w' ++ WM G (xa τ, qM))) (cells + rH.cells) (slots + rH.slots)) : Lb K G [] Q 8 23 [(0, .ref b), (1, .ref (xa σ 0)), (2, .ref (xa τ 0)), (3, .ref o), (4, .int (nI i))] [] (ow G o f :: (WC G σ ++ WM G τ)) cells slots := by
  refine b_iload X d_L_law_23 4 rfl ?_
  refine b_aload_n X d_L_law_25 0 rfl rfl ?_
  refine b_slen X hX hbl d_L_law_26 ?_
  refine b_iconst X (v := 3) d_L_law_27 (by decide) ?_
  refine b_isub X d_L_law_28 ?_
  refine b_icmp_gt X (tgt := 950) d_L_law_29 (by decide) (fun h => absurd h hgo) (fun _ => ?_)
  refine b_aload_n X d_L_law_32 0 rfl rfl ?_
  refine b_iload X d_L_law_33 4 rfl ?_
  refine b_sld X hX hbl i rfl (by omega) hL d_L_law_35 ?_
  refine b_bipush X (v := 31) d_L_law_36 (by decide) ?_
  refine b_iand X d_L_law_38 ?_
  refine Lb.eq (st' := [.int (nI 15)]) rfl (by rw [hcase]) rfl ?_
  refine b_tableIn X (tgt := 765) d_L_law_39 (by decide) (by decide) rfl (by decide) ?_
  refine b_aload_n X d_L_law_765 1 rfl rfl ?_
  refine b_aload_n X d_L_law_766 0 rfl rfl ?_
  refine b_iload X d_L_law_767 4 rfl ?_
  refine b_iconst X (v := 1) d_L_law_769 (by decide) ?_
  refine b_iadd X d_L_law_770 ?_
  refine b_sld X hX hbl (i + 1) (nI_add i 1) (by omega) hL d_L_law_771 ?_
  refine b_aload_n X d_L_law_772 3 rfl rfl ?_
  refine b_callHM X hnf cfh_L_following ml_L_127 tH (As := [.ref (xa σ 0), .int (xs (i + 1)), .ref o]) (rest := []) rfl (Nat.le_of_ble_eq_true rfl) hRH hfH rfl rfl d_L_law_773 ?_
  refine b_istore X (lv' := [(0, .ref b), (1, .ref (xa σ 0)), (2, .ref (xa τ 0)), (3, .ref o), (4, .int (nI i)), (5, .int k5)]) d_L_law_776 (by decide) [1, 2, 3, 4, 5, 0] rfl ?_
  refine b_aload_n X d_L_law_778 2 rfl rfl ?_
  refine b_aload_n X d_L_law_779 0 rfl rfl ?_
  refine b_iload X d_L_law_780 4 rfl ?_
  refine b_iconst X (v := 1) d_L_law_782 (by decide) ?_
  refine b_iadd X d_L_law_783 ?_
  refine b_sld X hX hbl (i + 1) (nI_add i 1) (by omega) hL d_L_law_784 ?_
  refine b_callVM X cf_M_following ci_M_following ml_L_129 tM 0 rfl rfl (As := [.int (xs (i + 1))]) (rest := []) rfl (Nat.le_of_ble_eq_true rfl) ⟨Nat.le_of_ble_eq_true rfl, Nat.le_of_ble_eq_true rfl⟩ ⟨rfl, rfl⟩ hfH rfl rfl d_L_law_785 ?_
  refine b_lstore X (lv' := [(0, .ref b), (1, .ref (xa σ 0)), (2, .ref (xa τ 0)), (3, .ref o), (4, .int (nI i)), (5, .int k5), (6, .long b6)]) d_L_law_788 (by decide) [1, 2, 3, 4, 5, 6, 0] rfl ?_
  refine b_aload_n X d_L_law_790 2 rfl rfl ?_
  refine b_callVM X cf_M_thrown ci_M_thrown ml_L_75 (ct_M_thrown_ G (xa τ, qM)) 0 rfl rfl (As := []) (rest := []) rfl (Nat.le_of_ble_eq_true rfl) ⟨Nat.le_of_ble_eq_true rfl, Nat.le_of_ble_eq_true rfl⟩ ⟨rfl, rfl⟩ hfH rfl rfl d_L_law_791 ?_
  refine b_iload X d_L_law_794 5 rfl ?_
  refine b_icmp_eq X (tgt := 801) d_L_law_796 (by decide) (fun _ => ?_) (fun h => absurd c796 h)
  refine b_iload X d_L_law_801 5 rfl ?_
  refine b_if_ne X (tgt := 817) d_L_law_803 (by decide) (fun h => absurd hk h) (fun _ => ?_)
  refine b_aload_n X d_L_law_806 3 rfl rfl ?_
  refine b_iconst X (v := 0) d_L_law_807 (by decide) ?_
  refine b_lald X 0 rfl (by decide) 0 rfl (by decide) d_L_law_808 ?_
  refine b_lload X d_L_law_809 6 rfl ?_
  refine b_l_eq X (tgt := 817) d_L_law_811 d_L_law_812 (by decide) (fun _ => ?_) (fun h => absurd c811 h)
  refine b_goto X (tgt := 944) d_L_law_817 (by decide) ?_
  refine b_iinc X (lv' := [(0, .ref b), (1, .ref (xa σ 0)), (2, .ref (xa τ 0)), (3, .ref o), (4, .int (nI (i + 3)))]) d_L_law_944 4 rfl (v := nI (i + 3)) (nI_add i 3) (by decide) [1, 2, 3, 4, 0] rfl ?_
  refine b_goto X (tgt := 23) d_L_law_947 (by decide) ?_
  exact k
theorem lc_15z {K : KX} {G : GG} {Q : State → Prop} {b L : Nat} {xs : Nat → Int32} (X : Bd K G [] "FirstTreesLaw" code 8 ret room_1) (hnf : nf (ks K)) (hX : va_X b L xs (ks K) (ks K).heap) (hbl : b < (ks K).heap.size) (hL : L < 2 ^ 31) (σ τ : St) (o : Nat) (f : Nat → Int64) (i cells slots : Nat) (hgo : ¬ nI L - 3 < nI i) (hi : i + 3 ≤ L) (hcase : xs i &&& 31 = nI 15) (rH : Room) (k5 : Int32) (f' : Nat → Int64) (w' : va_W) (b6 : Int64) (qM : Sq) (tH : CtH y_L_following c_L_following 4 (some .int) hs_L_following rH G [.ref (xa σ 0), .int (xs (i + 1)), .ref o] (ow G o f :: WC G σ) (eqp (some (.int k5)) (ow G o f' :: w'))) (hRH : rH.frames + 1 ≤ 11 ∧ 8 + (4 + 11) + rH.locals ≤ 384) (hfH : cells + rH.cells ≤ 601024 ∧ slots + rH.slots ≤ 7293034) (tM : Ct y_M_following c_M_following 2 (some .long) rm_M_following G [.ref (xa τ 0), .int (xs (i + 1))] (WM G τ) (eqp (some (.long b6)) (WM G (xa τ, qM)))) (c796 : (xi (xa τ, qM) 0 0) = k5) (hk : ¬ k5 = 0) (k : Lb K G [] Q 8 23 [(0, .ref b), (1, .ref (xa σ 0)), (2, .ref (xa τ 0)), (3, .ref o), (4, .int (nI (i + 3)))] [] (ow G o f' :: (w' ++ WM G (xa τ, qM))) (cells + rH.cells) (slots + rH.slots)) : Lb K G [] Q 8 23 [(0, .ref b), (1, .ref (xa σ 0)), (2, .ref (xa τ 0)), (3, .ref o), (4, .int (nI i))] [] (ow G o f :: (WC G σ ++ WM G τ)) cells slots := by
  refine b_iload X d_L_law_23 4 rfl ?_
  refine b_aload_n X d_L_law_25 0 rfl rfl ?_
  refine b_slen X hX hbl d_L_law_26 ?_
  refine b_iconst X (v := 3) d_L_law_27 (by decide) ?_
  refine b_isub X d_L_law_28 ?_
  refine b_icmp_gt X (tgt := 950) d_L_law_29 (by decide) (fun h => absurd h hgo) (fun _ => ?_)
  refine b_aload_n X d_L_law_32 0 rfl rfl ?_
  refine b_iload X d_L_law_33 4 rfl ?_
  refine b_sld X hX hbl i rfl (by omega) hL d_L_law_35 ?_
  refine b_bipush X (v := 31) d_L_law_36 (by decide) ?_
  refine b_iand X d_L_law_38 ?_
  refine Lb.eq (st' := [.int (nI 15)]) rfl (by rw [hcase]) rfl ?_
  refine b_tableIn X (tgt := 765) d_L_law_39 (by decide) (by decide) rfl (by decide) ?_
  refine b_aload_n X d_L_law_765 1 rfl rfl ?_
  refine b_aload_n X d_L_law_766 0 rfl rfl ?_
  refine b_iload X d_L_law_767 4 rfl ?_
  refine b_iconst X (v := 1) d_L_law_769 (by decide) ?_
  refine b_iadd X d_L_law_770 ?_
  refine b_sld X hX hbl (i + 1) (nI_add i 1) (by omega) hL d_L_law_771 ?_
  refine b_aload_n X d_L_law_772 3 rfl rfl ?_
  refine b_callHM X hnf cfh_L_following ml_L_127 tH (As := [.ref (xa σ 0), .int (xs (i + 1)), .ref o]) (rest := []) rfl (Nat.le_of_ble_eq_true rfl) hRH hfH rfl rfl d_L_law_773 ?_
  refine b_istore X (lv' := [(0, .ref b), (1, .ref (xa σ 0)), (2, .ref (xa τ 0)), (3, .ref o), (4, .int (nI i)), (5, .int k5)]) d_L_law_776 (by decide) [1, 2, 3, 4, 5, 0] rfl ?_
  refine b_aload_n X d_L_law_778 2 rfl rfl ?_
  refine b_aload_n X d_L_law_779 0 rfl rfl ?_
  refine b_iload X d_L_law_780 4 rfl ?_
  refine b_iconst X (v := 1) d_L_law_782 (by decide) ?_
  refine b_iadd X d_L_law_783 ?_
  refine b_sld X hX hbl (i + 1) (nI_add i 1) (by omega) hL d_L_law_784 ?_
  refine b_callVM X cf_M_following ci_M_following ml_L_129 tM 0 rfl rfl (As := [.int (xs (i + 1))]) (rest := []) rfl (Nat.le_of_ble_eq_true rfl) ⟨Nat.le_of_ble_eq_true rfl, Nat.le_of_ble_eq_true rfl⟩ ⟨rfl, rfl⟩ hfH rfl rfl d_L_law_785 ?_
  refine b_lstore X (lv' := [(0, .ref b), (1, .ref (xa σ 0)), (2, .ref (xa τ 0)), (3, .ref o), (4, .int (nI i)), (5, .int k5), (6, .long b6)]) d_L_law_788 (by decide) [1, 2, 3, 4, 5, 6, 0] rfl ?_
  refine b_aload_n X d_L_law_790 2 rfl rfl ?_
  refine b_callVM X cf_M_thrown ci_M_thrown ml_L_75 (ct_M_thrown_ G (xa τ, qM)) 0 rfl rfl (As := []) (rest := []) rfl (Nat.le_of_ble_eq_true rfl) ⟨Nat.le_of_ble_eq_true rfl, Nat.le_of_ble_eq_true rfl⟩ ⟨rfl, rfl⟩ hfH rfl rfl d_L_law_791 ?_
  refine b_iload X d_L_law_794 5 rfl ?_
  refine b_icmp_eq X (tgt := 801) d_L_law_796 (by decide) (fun _ => ?_) (fun h => absurd c796 h)
  refine b_iload X d_L_law_801 5 rfl ?_
  refine b_if_ne X (tgt := 817) d_L_law_803 (by decide) (fun _ => ?_) (fun h => absurd h hk)
  refine b_goto X (tgt := 944) d_L_law_817 (by decide) ?_
  refine b_iinc X (lv' := [(0, .ref b), (1, .ref (xa σ 0)), (2, .ref (xa τ 0)), (3, .ref o), (4, .int (nI (i + 3)))]) d_L_law_944 4 rfl (v := nI (i + 3)) (nI_add i 3) (by decide) [1, 2, 3, 4, 0] rfl ?_
  refine b_goto X (tgt := 23) d_L_law_947 (by decide) ?_
  exact k
theorem lc_16n {K : KX} {G : GG} {Q : State → Prop} {b L : Nat} {xs : Nat → Int32} (X : Bd K G [] "FirstTreesLaw" code 8 ret room_1) (hnf : nf (ks K)) (hX : va_X b L xs (ks K) (ks K).heap) (hbl : b < (ks K).heap.size) (hL : L < 2 ^ 31) (σ τ : St) (o : Nat) (f : Nat → Int64) (i cells slots : Nat) (hgo : ¬ nI L - 3 < nI i) (hi : i + 3 ≤ L) (hcase : xs i &&& 31 = nI 16) (rH : Room) (k5 : Int32) (f' : Nat → Int64) (w' : va_W) (b6 : Int32) (qM : Sq) (tH : CtH y_L_lets c_L_lets 5 (some .int) hs_L_lets rH G [.ref (xa σ 0), .int (xs (i + 1)), .int (xs (i + 2)), .ref o] (ow G o f :: WC G σ) (eqp (some (.int k5)) (ow G o f' :: w'))) (hRH : rH.frames + 1 ≤ 11 ∧ 8 + (5 + 11) + rH.locals ≤ 384) (hfH : cells + rH.cells ≤ 601024 ∧ slots + rH.slots ≤ 7293034) (tM : Ct y_M_lets c_M_lets 6 (some .int) rm_M_lets G [.ref (xa τ 0), .int (xs (i + 1)), .int (xs (i + 2))] (WM G τ) (eqp (some (.int b6)) (WM G (xa τ, qM)))) (c863 : (xi (xa τ, qM) 0 0) = k5) (hk : k5 = 0) (c879 : (f' 0) = (Int32.toInt64 b6)) (k : Lb K G [] Q 8 23 [(0, .ref b), (1, .ref (xa σ 0)), (2, .ref (xa τ 0)), (3, .ref o), (4, .int (nI (i + 3)))] [] (ow G o f' :: (w' ++ WM G (xa τ, qM))) (cells + rH.cells) (slots + rH.slots)) : Lb K G [] Q 8 23 [(0, .ref b), (1, .ref (xa σ 0)), (2, .ref (xa τ 0)), (3, .ref o), (4, .int (nI i))] [] (ow G o f :: (WC G σ ++ WM G τ)) cells slots := by
  refine b_iload X d_L_law_23 4 rfl ?_
  refine b_aload_n X d_L_law_25 0 rfl rfl ?_
  refine b_slen X hX hbl d_L_law_26 ?_
  refine b_iconst X (v := 3) d_L_law_27 (by decide) ?_
  refine b_isub X d_L_law_28 ?_
  refine b_icmp_gt X (tgt := 950) d_L_law_29 (by decide) (fun h => absurd h hgo) (fun _ => ?_)
  refine b_aload_n X d_L_law_32 0 rfl rfl ?_
  refine b_iload X d_L_law_33 4 rfl ?_
  refine b_sld X hX hbl i rfl (by omega) hL d_L_law_35 ?_
  refine b_bipush X (v := 31) d_L_law_36 (by decide) ?_
  refine b_iand X d_L_law_38 ?_
  refine Lb.eq (st' := [.int (nI 16)]) rfl (by rw [hcase]) rfl ?_
  refine b_tableIn X (tgt := 820) d_L_law_39 (by decide) (by decide) rfl (by decide) ?_
  refine b_aload_n X d_L_law_820 1 rfl rfl ?_
  refine b_aload_n X d_L_law_821 0 rfl rfl ?_
  refine b_iload X d_L_law_822 4 rfl ?_
  refine b_iconst X (v := 1) d_L_law_824 (by decide) ?_
  refine b_iadd X d_L_law_825 ?_
  refine b_sld X hX hbl (i + 1) (nI_add i 1) (by omega) hL d_L_law_826 ?_
  refine b_aload_n X d_L_law_827 0 rfl rfl ?_
  refine b_iload X d_L_law_828 4 rfl ?_
  refine b_iconst X (v := 2) d_L_law_830 (by decide) ?_
  refine b_iadd X d_L_law_831 ?_
  refine b_sld X hX hbl (i + 2) (nI_add i 2) (by omega) hL d_L_law_832 ?_
  refine b_aload_n X d_L_law_833 3 rfl rfl ?_
  refine b_callHM X hnf cfh_L_lets ml_L_130 tH (As := [.ref (xa σ 0), .int (xs (i + 1)), .int (xs (i + 2)), .ref o]) (rest := []) rfl (Nat.le_of_ble_eq_true rfl) hRH hfH rfl rfl d_L_law_834 ?_
  refine b_istore X (lv' := [(0, .ref b), (1, .ref (xa σ 0)), (2, .ref (xa τ 0)), (3, .ref o), (4, .int (nI i)), (5, .int k5)]) d_L_law_837 (by decide) [1, 2, 3, 4, 5, 0] rfl ?_
  refine b_aload_n X d_L_law_839 2 rfl rfl ?_
  refine b_aload_n X d_L_law_840 0 rfl rfl ?_
  refine b_iload X d_L_law_841 4 rfl ?_
  refine b_iconst X (v := 1) d_L_law_843 (by decide) ?_
  refine b_iadd X d_L_law_844 ?_
  refine b_sld X hX hbl (i + 1) (nI_add i 1) (by omega) hL d_L_law_845 ?_
  refine b_aload_n X d_L_law_846 0 rfl rfl ?_
  refine b_iload X d_L_law_847 4 rfl ?_
  refine b_iconst X (v := 2) d_L_law_849 (by decide) ?_
  refine b_iadd X d_L_law_850 ?_
  refine b_sld X hX hbl (i + 2) (nI_add i 2) (by omega) hL d_L_law_851 ?_
  refine b_callVM X cf_M_lets ci_M_lets ml_L_132 tM 0 rfl rfl (As := [.int (xs (i + 1)), .int (xs (i + 2))]) (rest := []) rfl (Nat.le_of_ble_eq_true rfl) ⟨Nat.le_of_ble_eq_true rfl, Nat.le_of_ble_eq_true rfl⟩ ⟨rfl, rfl⟩ hfH rfl rfl d_L_law_852 ?_
  refine b_istore X (lv' := [(0, .ref b), (1, .ref (xa σ 0)), (2, .ref (xa τ 0)), (3, .ref o), (4, .int (nI i)), (5, .int k5), (6, .int b6)]) d_L_law_855 (by decide) [1, 2, 3, 4, 5, 6, 0] rfl ?_
  refine b_aload_n X d_L_law_857 2 rfl rfl ?_
  refine b_callVM X cf_M_thrown ci_M_thrown ml_L_75 (ct_M_thrown_ G (xa τ, qM)) 0 rfl rfl (As := []) (rest := []) rfl (Nat.le_of_ble_eq_true rfl) ⟨Nat.le_of_ble_eq_true rfl, Nat.le_of_ble_eq_true rfl⟩ ⟨rfl, rfl⟩ hfH rfl rfl d_L_law_858 ?_
  refine b_iload X d_L_law_861 5 rfl ?_
  refine b_icmp_eq X (tgt := 868) d_L_law_863 (by decide) (fun _ => ?_) (fun h => absurd c863 h)
  refine b_iload X d_L_law_868 5 rfl ?_
  refine b_if_ne X (tgt := 885) d_L_law_870 (by decide) (fun h => absurd hk h) (fun _ => ?_)
  refine b_aload_n X d_L_law_873 3 rfl rfl ?_
  refine b_iconst X (v := 0) d_L_law_874 (by decide) ?_
  refine b_lald X 0 rfl (by decide) 0 rfl (by decide) d_L_law_875 ?_
  refine b_iload X d_L_law_876 6 rfl ?_
  refine b_i2l X (v := (Int32.toInt64 b6)) d_L_law_878 rfl ?_
  refine b_l_eq X (tgt := 885) d_L_law_879 d_L_law_880 (by decide) (fun _ => ?_) (fun h => absurd c879 h)
  refine b_goto X (tgt := 944) d_L_law_885 (by decide) ?_
  refine b_iinc X (lv' := [(0, .ref b), (1, .ref (xa σ 0)), (2, .ref (xa τ 0)), (3, .ref o), (4, .int (nI (i + 3)))]) d_L_law_944 4 rfl (v := nI (i + 3)) (nI_add i 3) (by decide) [1, 2, 3, 4, 0] rfl ?_
  refine b_goto X (tgt := 23) d_L_law_947 (by decide) ?_
  exact k
theorem lc_16z {K : KX} {G : GG} {Q : State → Prop} {b L : Nat} {xs : Nat → Int32} (X : Bd K G [] "FirstTreesLaw" code 8 ret room_1) (hnf : nf (ks K)) (hX : va_X b L xs (ks K) (ks K).heap) (hbl : b < (ks K).heap.size) (hL : L < 2 ^ 31) (σ τ : St) (o : Nat) (f : Nat → Int64) (i cells slots : Nat) (hgo : ¬ nI L - 3 < nI i) (hi : i + 3 ≤ L) (hcase : xs i &&& 31 = nI 16) (rH : Room) (k5 : Int32) (f' : Nat → Int64) (w' : va_W) (b6 : Int32) (qM : Sq) (tH : CtH y_L_lets c_L_lets 5 (some .int) hs_L_lets rH G [.ref (xa σ 0), .int (xs (i + 1)), .int (xs (i + 2)), .ref o] (ow G o f :: WC G σ) (eqp (some (.int k5)) (ow G o f' :: w'))) (hRH : rH.frames + 1 ≤ 11 ∧ 8 + (5 + 11) + rH.locals ≤ 384) (hfH : cells + rH.cells ≤ 601024 ∧ slots + rH.slots ≤ 7293034) (tM : Ct y_M_lets c_M_lets 6 (some .int) rm_M_lets G [.ref (xa τ 0), .int (xs (i + 1)), .int (xs (i + 2))] (WM G τ) (eqp (some (.int b6)) (WM G (xa τ, qM)))) (c863 : (xi (xa τ, qM) 0 0) = k5) (hk : ¬ k5 = 0) (k : Lb K G [] Q 8 23 [(0, .ref b), (1, .ref (xa σ 0)), (2, .ref (xa τ 0)), (3, .ref o), (4, .int (nI (i + 3)))] [] (ow G o f' :: (w' ++ WM G (xa τ, qM))) (cells + rH.cells) (slots + rH.slots)) : Lb K G [] Q 8 23 [(0, .ref b), (1, .ref (xa σ 0)), (2, .ref (xa τ 0)), (3, .ref o), (4, .int (nI i))] [] (ow G o f :: (WC G σ ++ WM G τ)) cells slots := by
  refine b_iload X d_L_law_23 4 rfl ?_
  refine b_aload_n X d_L_law_25 0 rfl rfl ?_
  refine b_slen X hX hbl d_L_law_26 ?_
  refine b_iconst X (v := 3) d_L_law_27 (by decide) ?_
  refine b_isub X d_L_law_28 ?_
  refine b_icmp_gt X (tgt := 950) d_L_law_29 (by decide) (fun h => absurd h hgo) (fun _ => ?_)
  refine b_aload_n X d_L_law_32 0 rfl rfl ?_
  refine b_iload X d_L_law_33 4 rfl ?_
  refine b_sld X hX hbl i rfl (by omega) hL d_L_law_35 ?_
  refine b_bipush X (v := 31) d_L_law_36 (by decide) ?_
  refine b_iand X d_L_law_38 ?_
  refine Lb.eq (st' := [.int (nI 16)]) rfl (by rw [hcase]) rfl ?_
  refine b_tableIn X (tgt := 820) d_L_law_39 (by decide) (by decide) rfl (by decide) ?_
  refine b_aload_n X d_L_law_820 1 rfl rfl ?_
  refine b_aload_n X d_L_law_821 0 rfl rfl ?_
  refine b_iload X d_L_law_822 4 rfl ?_
  refine b_iconst X (v := 1) d_L_law_824 (by decide) ?_
  refine b_iadd X d_L_law_825 ?_
  refine b_sld X hX hbl (i + 1) (nI_add i 1) (by omega) hL d_L_law_826 ?_
  refine b_aload_n X d_L_law_827 0 rfl rfl ?_
  refine b_iload X d_L_law_828 4 rfl ?_
  refine b_iconst X (v := 2) d_L_law_830 (by decide) ?_
  refine b_iadd X d_L_law_831 ?_
  refine b_sld X hX hbl (i + 2) (nI_add i 2) (by omega) hL d_L_law_832 ?_
  refine b_aload_n X d_L_law_833 3 rfl rfl ?_
  refine b_callHM X hnf cfh_L_lets ml_L_130 tH (As := [.ref (xa σ 0), .int (xs (i + 1)), .int (xs (i + 2)), .ref o]) (rest := []) rfl (Nat.le_of_ble_eq_true rfl) hRH hfH rfl rfl d_L_law_834 ?_
  refine b_istore X (lv' := [(0, .ref b), (1, .ref (xa σ 0)), (2, .ref (xa τ 0)), (3, .ref o), (4, .int (nI i)), (5, .int k5)]) d_L_law_837 (by decide) [1, 2, 3, 4, 5, 0] rfl ?_
  refine b_aload_n X d_L_law_839 2 rfl rfl ?_
  refine b_aload_n X d_L_law_840 0 rfl rfl ?_
  refine b_iload X d_L_law_841 4 rfl ?_
  refine b_iconst X (v := 1) d_L_law_843 (by decide) ?_
  refine b_iadd X d_L_law_844 ?_
  refine b_sld X hX hbl (i + 1) (nI_add i 1) (by omega) hL d_L_law_845 ?_
  refine b_aload_n X d_L_law_846 0 rfl rfl ?_
  refine b_iload X d_L_law_847 4 rfl ?_
  refine b_iconst X (v := 2) d_L_law_849 (by decide) ?_
  refine b_iadd X d_L_law_850 ?_
  refine b_sld X hX hbl (i + 2) (nI_add i 2) (by omega) hL d_L_law_851 ?_
  refine b_callVM X cf_M_lets ci_M_lets ml_L_132 tM 0 rfl rfl (As := [.int (xs (i + 1)), .int (xs (i + 2))]) (rest := []) rfl (Nat.le_of_ble_eq_true rfl) ⟨Nat.le_of_ble_eq_true rfl, Nat.le_of_ble_eq_true rfl⟩ ⟨rfl, rfl⟩ hfH rfl rfl d_L_law_852 ?_
  refine b_istore X (lv' := [(0, .ref b), (1, .ref (xa σ 0)), (2, .ref (xa τ 0)), (3, .ref o), (4, .int (nI i)), (5, .int k5), (6, .int b6)]) d_L_law_855 (by decide) [1, 2, 3, 4, 5, 6, 0] rfl ?_
  refine b_aload_n X d_L_law_857 2 rfl rfl ?_
  refine b_callVM X cf_M_thrown ci_M_thrown ml_L_75 (ct_M_thrown_ G (xa τ, qM)) 0 rfl rfl (As := []) (rest := []) rfl (Nat.le_of_ble_eq_true rfl) ⟨Nat.le_of_ble_eq_true rfl, Nat.le_of_ble_eq_true rfl⟩ ⟨rfl, rfl⟩ hfH rfl rfl d_L_law_858 ?_
  refine b_iload X d_L_law_861 5 rfl ?_
  refine b_icmp_eq X (tgt := 868) d_L_law_863 (by decide) (fun _ => ?_) (fun h => absurd c863 h)
  refine b_iload X d_L_law_868 5 rfl ?_
  refine b_if_ne X (tgt := 885) d_L_law_870 (by decide) (fun _ => ?_) (fun h => absurd h hk)
  refine b_goto X (tgt := 944) d_L_law_885 (by decide) ?_
  refine b_iinc X (lv' := [(0, .ref b), (1, .ref (xa σ 0)), (2, .ref (xa τ 0)), (3, .ref o), (4, .int (nI (i + 3)))]) d_L_law_944 4 rfl (v := nI (i + 3)) (nI_add i 3) (by decide) [1, 2, 3, 4, 0] rfl ?_
  refine b_goto X (tgt := 23) d_L_law_947 (by decide) ?_
  exact k
theorem lc_17n {K : KX} {G : GG} {Q : State → Prop} {b L : Nat} {xs : Nat → Int32} (X : Bd K G [] "FirstTreesLaw" code 8 ret room_1) (hnf : nf (ks K)) (hX : va_X b L xs (ks K) (ks K).heap) (hbl : b < (ks K).heap.size) (hL : L < 2 ^ 31) (σ τ : St) (o : Nat) (f : Nat → Int64) (i cells slots : Nat) (hgo : ¬ nI L - 3 < nI i) (hi : i + 3 ≤ L) (hcase : xs i &&& 31 = nI 17) (rH : Room) (k5 : Int32) (f' : Nat → Int64) (w' : va_W) (b6 : Int32) (qM : Sq) (tH : CtH y_L_count c_L_count 4 (some .int) hs_L_count rH G [.ref (xa σ 0), .int (xs (i + 1)), .ref o] (ow G o f :: WC G σ) (eqp (some (.int k5)) (ow G o f' :: w'))) (hRH : rH.frames + 1 ≤ 11 ∧ 8 + (4 + 11) + rH.locals ≤ 384) (hfH : cells + rH.cells ≤ 601024 ∧ slots + rH.slots ≤ 7293034) (tM : Ct y_M_count c_M_count 2 (some .int) rm_M_count G [.ref (xa τ 0), .int (xs (i + 1))] (WM G τ) (eqp (some (.int b6)) (WM G (xa τ, qM)))) (c919 : (xi (xa τ, qM) 0 0) = k5) (hk : k5 = 0) (c935 : (f' 0) = (Int32.toInt64 b6)) (k : Lb K G [] Q 8 23 [(0, .ref b), (1, .ref (xa σ 0)), (2, .ref (xa τ 0)), (3, .ref o), (4, .int (nI (i + 3)))] [] (ow G o f' :: (w' ++ WM G (xa τ, qM))) (cells + rH.cells) (slots + rH.slots)) : Lb K G [] Q 8 23 [(0, .ref b), (1, .ref (xa σ 0)), (2, .ref (xa τ 0)), (3, .ref o), (4, .int (nI i))] [] (ow G o f :: (WC G σ ++ WM G τ)) cells slots := by
  refine b_iload X d_L_law_23 4 rfl ?_
  refine b_aload_n X d_L_law_25 0 rfl rfl ?_
  refine b_slen X hX hbl d_L_law_26 ?_
  refine b_iconst X (v := 3) d_L_law_27 (by decide) ?_
  refine b_isub X d_L_law_28 ?_
  refine b_icmp_gt X (tgt := 950) d_L_law_29 (by decide) (fun h => absurd h hgo) (fun _ => ?_)
  refine b_aload_n X d_L_law_32 0 rfl rfl ?_
  refine b_iload X d_L_law_33 4 rfl ?_
  refine b_sld X hX hbl i rfl (by omega) hL d_L_law_35 ?_
  refine b_bipush X (v := 31) d_L_law_36 (by decide) ?_
  refine b_iand X d_L_law_38 ?_
  refine Lb.eq (st' := [.int (nI 17)]) rfl (by rw [hcase]) rfl ?_
  refine b_tableIn X (tgt := 888) d_L_law_39 (by decide) (by decide) rfl (by decide) ?_
  refine b_aload_n X d_L_law_888 1 rfl rfl ?_
  refine b_aload_n X d_L_law_889 0 rfl rfl ?_
  refine b_iload X d_L_law_890 4 rfl ?_
  refine b_iconst X (v := 1) d_L_law_892 (by decide) ?_
  refine b_iadd X d_L_law_893 ?_
  refine b_sld X hX hbl (i + 1) (nI_add i 1) (by omega) hL d_L_law_894 ?_
  refine b_aload_n X d_L_law_895 3 rfl rfl ?_
  refine b_callHM X hnf cfh_L_count ml_L_133 tH (As := [.ref (xa σ 0), .int (xs (i + 1)), .ref o]) (rest := []) rfl (Nat.le_of_ble_eq_true rfl) hRH hfH rfl rfl d_L_law_896 ?_
  refine b_istore X (lv' := [(0, .ref b), (1, .ref (xa σ 0)), (2, .ref (xa τ 0)), (3, .ref o), (4, .int (nI i)), (5, .int k5)]) d_L_law_899 (by decide) [1, 2, 3, 4, 5, 0] rfl ?_
  refine b_aload_n X d_L_law_901 2 rfl rfl ?_
  refine b_aload_n X d_L_law_902 0 rfl rfl ?_
  refine b_iload X d_L_law_903 4 rfl ?_
  refine b_iconst X (v := 1) d_L_law_905 (by decide) ?_
  refine b_iadd X d_L_law_906 ?_
  refine b_sld X hX hbl (i + 1) (nI_add i 1) (by omega) hL d_L_law_907 ?_
  refine b_callVM X cf_M_count ci_M_count ml_L_135 tM 0 rfl rfl (As := [.int (xs (i + 1))]) (rest := []) rfl (Nat.le_of_ble_eq_true rfl) ⟨Nat.le_of_ble_eq_true rfl, Nat.le_of_ble_eq_true rfl⟩ ⟨rfl, rfl⟩ hfH rfl rfl d_L_law_908 ?_
  refine b_istore X (lv' := [(0, .ref b), (1, .ref (xa σ 0)), (2, .ref (xa τ 0)), (3, .ref o), (4, .int (nI i)), (5, .int k5), (6, .int b6)]) d_L_law_911 (by decide) [1, 2, 3, 4, 5, 6, 0] rfl ?_
  refine b_aload_n X d_L_law_913 2 rfl rfl ?_
  refine b_callVM X cf_M_thrown ci_M_thrown ml_L_75 (ct_M_thrown_ G (xa τ, qM)) 0 rfl rfl (As := []) (rest := []) rfl (Nat.le_of_ble_eq_true rfl) ⟨Nat.le_of_ble_eq_true rfl, Nat.le_of_ble_eq_true rfl⟩ ⟨rfl, rfl⟩ hfH rfl rfl d_L_law_914 ?_
  refine b_iload X d_L_law_917 5 rfl ?_
  refine b_icmp_eq X (tgt := 924) d_L_law_919 (by decide) (fun _ => ?_) (fun h => absurd c919 h)
  refine b_iload X d_L_law_924 5 rfl ?_
  refine b_if_ne X (tgt := 941) d_L_law_926 (by decide) (fun h => absurd hk h) (fun _ => ?_)
  refine b_aload_n X d_L_law_929 3 rfl rfl ?_
  refine b_iconst X (v := 0) d_L_law_930 (by decide) ?_
  refine b_lald X 0 rfl (by decide) 0 rfl (by decide) d_L_law_931 ?_
  refine b_iload X d_L_law_932 6 rfl ?_
  refine b_i2l X (v := (Int32.toInt64 b6)) d_L_law_934 rfl ?_
  refine b_l_eq X (tgt := 941) d_L_law_935 d_L_law_936 (by decide) (fun _ => ?_) (fun h => absurd c935 h)
  refine b_goto X (tgt := 944) d_L_law_941 (by decide) ?_
  refine b_iinc X (lv' := [(0, .ref b), (1, .ref (xa σ 0)), (2, .ref (xa τ 0)), (3, .ref o), (4, .int (nI (i + 3)))]) d_L_law_944 4 rfl (v := nI (i + 3)) (nI_add i 3) (by decide) [1, 2, 3, 4, 0] rfl ?_
  refine b_goto X (tgt := 23) d_L_law_947 (by decide) ?_
  exact k
theorem lc_17z {K : KX} {G : GG} {Q : State → Prop} {b L : Nat} {xs : Nat → Int32} (X : Bd K G [] "FirstTreesLaw" code 8 ret room_1) (hnf : nf (ks K)) (hX : va_X b L xs (ks K) (ks K).heap) (hbl : b < (ks K).heap.size) (hL : L < 2 ^ 31) (σ τ : St) (o : Nat) (f : Nat → Int64) (i cells slots : Nat) (hgo : ¬ nI L - 3 < nI i) (hi : i + 3 ≤ L) (hcase : xs i &&& 31 = nI 17) (rH : Room) (k5 : Int32) (f' : Nat → Int64) (w' : va_W) (b6 : Int32) (qM : Sq) (tH : CtH y_L_count c_L_count 4 (some .int) hs_L_count rH G [.ref (xa σ 0), .int (xs (i + 1)), .ref o] (ow G o f :: WC G σ) (eqp (some (.int k5)) (ow G o f' :: w'))) (hRH : rH.frames + 1 ≤ 11 ∧ 8 + (4 + 11) + rH.locals ≤ 384) (hfH : cells + rH.cells ≤ 601024 ∧ slots + rH.slots ≤ 7293034) (tM : Ct y_M_count c_M_count 2 (some .int) rm_M_count G [.ref (xa τ 0), .int (xs (i + 1))] (WM G τ) (eqp (some (.int b6)) (WM G (xa τ, qM)))) (c919 : (xi (xa τ, qM) 0 0) = k5) (hk : ¬ k5 = 0) (k : Lb K G [] Q 8 23 [(0, .ref b), (1, .ref (xa σ 0)), (2, .ref (xa τ 0)), (3, .ref o), (4, .int (nI (i + 3)))] [] (ow G o f' :: (w' ++ WM G (xa τ, qM))) (cells + rH.cells) (slots + rH.slots)) : Lb K G [] Q 8 23 [(0, .ref b), (1, .ref (xa σ 0)), (2, .ref (xa τ 0)), (3, .ref o), (4, .int (nI i))] [] (ow G o f :: (WC G σ ++ WM G τ)) cells slots := by
  refine b_iload X d_L_law_23 4 rfl ?_
  refine b_aload_n X d_L_law_25 0 rfl rfl ?_
  refine b_slen X hX hbl d_L_law_26 ?_
  refine b_iconst X (v := 3) d_L_law_27 (by decide) ?_
  refine b_isub X d_L_law_28 ?_
  refine b_icmp_gt X (tgt := 950) d_L_law_29 (by decide) (fun h => absurd h hgo) (fun _ => ?_)
  refine b_aload_n X d_L_law_32 0 rfl rfl ?_
  refine b_iload X d_L_law_33 4 rfl ?_
  refine b_sld X hX hbl i rfl (by omega) hL d_L_law_35 ?_
  refine b_bipush X (v := 31) d_L_law_36 (by decide) ?_
  refine b_iand X d_L_law_38 ?_
  refine Lb.eq (st' := [.int (nI 17)]) rfl (by rw [hcase]) rfl ?_
  refine b_tableIn X (tgt := 888) d_L_law_39 (by decide) (by decide) rfl (by decide) ?_
  refine b_aload_n X d_L_law_888 1 rfl rfl ?_
  refine b_aload_n X d_L_law_889 0 rfl rfl ?_
  refine b_iload X d_L_law_890 4 rfl ?_
  refine b_iconst X (v := 1) d_L_law_892 (by decide) ?_
  refine b_iadd X d_L_law_893 ?_
  refine b_sld X hX hbl (i + 1) (nI_add i 1) (by omega) hL d_L_law_894 ?_
  refine b_aload_n X d_L_law_895 3 rfl rfl ?_
  refine b_callHM X hnf cfh_L_count ml_L_133 tH (As := [.ref (xa σ 0), .int (xs (i + 1)), .ref o]) (rest := []) rfl (Nat.le_of_ble_eq_true rfl) hRH hfH rfl rfl d_L_law_896 ?_
  refine b_istore X (lv' := [(0, .ref b), (1, .ref (xa σ 0)), (2, .ref (xa τ 0)), (3, .ref o), (4, .int (nI i)), (5, .int k5)]) d_L_law_899 (by decide) [1, 2, 3, 4, 5, 0] rfl ?_
  refine b_aload_n X d_L_law_901 2 rfl rfl ?_
  refine b_aload_n X d_L_law_902 0 rfl rfl ?_
  refine b_iload X d_L_law_903 4 rfl ?_
  refine b_iconst X (v := 1) d_L_law_905 (by decide) ?_
  refine b_iadd X d_L_law_906 ?_
  refine b_sld X hX hbl (i + 1) (nI_add i 1) (by omega) hL d_L_law_907 ?_
  refine b_callVM X cf_M_count ci_M_count ml_L_135 tM 0 rfl rfl (As := [.int (xs (i + 1))]) (rest := []) rfl (Nat.le_of_ble_eq_true rfl) ⟨Nat.le_of_ble_eq_true rfl, Nat.le_of_ble_eq_true rfl⟩ ⟨rfl, rfl⟩ hfH rfl rfl d_L_law_908 ?_
  refine b_istore X (lv' := [(0, .ref b), (1, .ref (xa σ 0)), (2, .ref (xa τ 0)), (3, .ref o), (4, .int (nI i)), (5, .int k5), (6, .int b6)]) d_L_law_911 (by decide) [1, 2, 3, 4, 5, 6, 0] rfl ?_
  refine b_aload_n X d_L_law_913 2 rfl rfl ?_
  refine b_callVM X cf_M_thrown ci_M_thrown ml_L_75 (ct_M_thrown_ G (xa τ, qM)) 0 rfl rfl (As := []) (rest := []) rfl (Nat.le_of_ble_eq_true rfl) ⟨Nat.le_of_ble_eq_true rfl, Nat.le_of_ble_eq_true rfl⟩ ⟨rfl, rfl⟩ hfH rfl rfl d_L_law_914 ?_
  refine b_iload X d_L_law_917 5 rfl ?_
  refine b_icmp_eq X (tgt := 924) d_L_law_919 (by decide) (fun _ => ?_) (fun h => absurd c919 h)
  refine b_iload X d_L_law_924 5 rfl ?_
  refine b_if_ne X (tgt := 941) d_L_law_926 (by decide) (fun _ => ?_) (fun h => absurd h hk)
  refine b_goto X (tgt := 944) d_L_law_941 (by decide) ?_
  refine b_iinc X (lv' := [(0, .ref b), (1, .ref (xa σ 0)), (2, .ref (xa τ 0)), (3, .ref o), (4, .int (nI (i + 3)))]) d_L_law_944 4 rfl (v := nI (i + 3)) (nI_add i 3) (by decide) [1, 2, 3, 4, 0] rfl ?_
  refine b_goto X (tgt := 23) d_L_law_947 (by decide) ?_
  exact k
theorem lc_d {K : KX} {G : GG} {Q : State → Prop} {b L : Nat} {xs : Nat → Int32} (X : Bd K G [] "FirstTreesLaw" code 8 ret room_1) (hnf : nf (ks K)) (hX : va_X b L xs (ks K) (ks K).heap) (hbl : b < (ks K).heap.size) (hL : L < 2 ^ 31) (σ τ : St) (o : Nat) (f : Nat → Int64) (i cells slots : Nat) (hgo : ¬ nI L - 3 < nI i) (hi : i + 3 ≤ L) (hcase : 17 < (xs i &&& 31).toInt)   (k : Lb K G [] Q 8 23 [(0, .ref b), (1, .ref (xa σ 0)), (2, .ref (xa τ 0)), (3, .ref o), (4, .int (nI (i + 3)))] [] (ow G o f :: ((WC G σ) ++ WM G τ)) cells slots) : Lb K G [] Q 8 23 [(0, .ref b), (1, .ref (xa σ 0)), (2, .ref (xa τ 0)), (3, .ref o), (4, .int (nI i))] [] (ow G o f :: (WC G σ ++ WM G τ)) cells slots := by
  refine b_iload X d_L_law_23 4 rfl ?_
  refine b_aload_n X d_L_law_25 0 rfl rfl ?_
  refine b_slen X hX hbl d_L_law_26 ?_
  refine b_iconst X (v := 3) d_L_law_27 (by decide) ?_
  refine b_isub X d_L_law_28 ?_
  refine b_icmp_gt X (tgt := 950) d_L_law_29 (by decide) (fun h => absurd h hgo) (fun _ => ?_)
  refine b_aload_n X d_L_law_32 0 rfl rfl ?_
  refine b_iload X d_L_law_33 4 rfl ?_
  refine b_sld X hX hbl i rfl (by omega) hL d_L_law_35 ?_
  refine b_bipush X (v := 31) d_L_law_36 (by decide) ?_
  refine b_iand X d_L_law_38 ?_
  refine b_tableOut X (tgt := 944) d_L_law_39 (Or.inr hcase) (by decide) ?_
  refine b_iinc X (lv' := [(0, .ref b), (1, .ref (xa σ 0)), (2, .ref (xa τ 0)), (3, .ref o), (4, .int (nI (i + 3)))]) d_L_law_944 4 rfl (v := nI (i + 3)) (nI_add i 3) (by decide) [1, 2, 3, 4, 0] rfl ?_
  refine b_goto X (tgt := 23) d_L_law_947 (by decide) ?_
  exact k
