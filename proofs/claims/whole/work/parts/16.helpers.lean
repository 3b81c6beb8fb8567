/-! the law's helpers, by program -/
abbrev ow (G : GG) (o : Nat) (f : Nat → Int64) : Nat × va_E := (o, .inl (G.2 1, 1, .inr (.inl f)))
abbrev rmh (n : Nat) (r : Room) : Room := { frames := r.frames + 1, cells := r.cells, slots := r.slots, locals := 8 + (n + 11) + r.locals }
abbrev hs_L_rule : EX := [(0, 8, 11, 13)]
set_option maxRecDepth 20000 in
theorem cfh_L_rule : CFH y_L_rule c_L_rule 3 (some .int) hs_L_rule 2 := ⟨ws_2 130 rfl rfl, ws_1 0 rfl rfl, ⟨by decide +kernel, by decide +kernel⟩, by decide +kernel, ws_2 129 rfl rfl⟩
theorem hn_L_rule (G : GG) (σ : St) (o : Nat) (f : Nat → Int64)  {rm' : Room} {w' : va_W} (r : Int32) (ct : Ct y_F_rule c_F_rule 1 (some .int) rm' G [.ref (xa σ 0)] (WC G σ) (eqp (some (.int r)) w')) : CtH y_L_rule c_L_rule 3 (some .int) hs_L_rule (rmh 1 rm') G [.ref (xa σ 0), .ref o] (ow G o f :: WC G σ) (eqp (some (.int 0)) (ow G o (vp_updL f 0 (Int32.toInt64 r)) :: w')) := by
  refine CtH.of (by decide +kernel) (Nat.le_of_ble_eq_true rfl) (fun K X hnf hex => ?_)
  show Lb K G _ _ 3 0 [(0, .ref (xa σ 0)), (1, .ref o)] [] _ 0 0
  refine b_aload_n X d_L_rule_0 1 rfl rfl ?_
  refine b_iconst X (v := 0) d_L_rule_1 (by decide) ?_
  refine b_aload_n X d_L_rule_2 0 rfl rfl ?_
  refine b_callV1 X cf_F_rule ci_F_rule ml_L_7 ct 0 rfl rfl (As := []) (rest := [.int 0, .ref o]) rfl (Nat.le_of_ble_eq_true rfl) ⟨Nat.le_refl _, Nat.le_refl _⟩ ⟨Nat.le_of_eq (Nat.zero_add _), Nat.le_of_eq (Nat.zero_add _)⟩ rfl d_L_rule_3 (fun v w'' hp => ?_)
  obtain ⟨rfl, rfl⟩ := hp
  refine Lb.eq (st' := .int r :: [.int 0, .ref o]) rfl rfl rfl ?_
  refine b_i2l X (v := (Int32.toInt64 r)) d_L_rule_6 rfl ?_
  refine b_last X 0 rfl (by decide) 0 rfl (by decide) rfl d_L_rule_7 ?_
  refine b_goto X (tgt := 14) d_L_rule_8 (by decide) ?_
  refine b_iconst X (v := 0) d_L_rule_14 (by decide) ?_
  refine Lb.widen (Nat.le_of_eq (Nat.zero_add _)) (Nat.le_of_eq (Nat.zero_add _)) ?_
  exact b_iret X (rm := (rmh 1 rm')) d_L_rule_15 ⟨rfl, rfl⟩
theorem hz_L_rule_1 (G : GG) (σ : St) (o : Nat) (f : Nat → Int64)  {rm' : Room} {w' : va_W} (ct : CtT y_F_rule c_F_rule 1 (some .int) rm' G [.ref (xa σ 0)] (WC G σ) "java/lang/UnsupportedOperationException" (fun w'' => w'' = w')) : CtH y_L_rule c_L_rule 3 (some .int) hs_L_rule (rmh 1 rm') G [.ref (xa σ 0), .ref o] (ow G o f :: WC G σ) (eqp (some (.int 1)) (ow G o f :: w')) := by
  refine CtH.of (by decide +kernel) (Nat.le_of_ble_eq_true rfl) (fun K X hnf hex => ?_)
  show Lb K G _ _ 3 0 [(0, .ref (xa σ 0)), (1, .ref o)] [] _ 0 0
  refine b_aload_n X d_L_rule_0 1 rfl rfl ?_
  refine b_iconst X (v := 0) d_L_rule_1 (by decide) ?_
  refine b_aload_n X d_L_rule_2 0 rfl rfl ?_
  refine b_callT1 X cf_F_rule ci_F_rule ml_L_7 ct 0 rfl rfl (As := []) (rest := [.int 0, .ref o]) rfl (Nat.le_of_ble_eq_true rfl) ⟨Nat.le_refl _, Nat.le_refl _⟩ ⟨Nat.le_of_eq (Nat.zero_add _), Nat.le_of_eq (Nat.zero_add _)⟩ rfl d_L_rule_3 (fun w'' hp => ?_)
  subst hp
  refine b_catch X hnf hex [] (0, 8, 11, 13) [] rfl (fun y hy => by cases hy) ⟨by decide, by decide, by decide, ws_2 131 rfl rfl, List.mem_of_getElem? (i := 4) rfl⟩ (fun a => ?_)
  refine b_astore_n X d_L_rule_11 rfl (by decide) [] rfl ?_
  refine b_iconst X (v := 1) d_L_rule_12 (by decide) ?_
  refine Lb.widen (Nat.le_of_eq (Nat.zero_add _)) (Nat.le_of_eq (Nat.zero_add _)) ?_
  exact b_iret X (rm := (rmh 1 rm')) d_L_rule_13 ⟨rfl, rfl⟩
abbrev hs_L_alternative : EX := [(0, 9, 12, 19), (0, 9, 15, 13)]
set_option maxRecDepth 20000 in
theorem cfh_L_alternative : CFH y_L_alternative c_L_alternative 4 (some .int) hs_L_alternative 3 := ⟨ws_2 212 rfl rfl, ws_1 0 rfl rfl, ⟨by decide +kernel, by decide +kernel⟩, by decide +kernel, ws_2 211 rfl rfl⟩
theorem hn_L_alternative (G : GG) (σ : St) (o : Nat) (f : Nat → Int64) (x1 : Int32) {rm' : Room} {w' : va_W} (r : Int32) (ct : Ct y_F_alternative c_F_alternative 2 (some .int) rm' G [.ref (xa σ 0), .int x1] (WC G σ) (eqp (some (.int r)) w')) : CtH y_L_alternative c_L_alternative 4 (some .int) hs_L_alternative (rmh 2 rm') G [.ref (xa σ 0), .int x1, .ref o] (ow G o f :: WC G σ) (eqp (some (.int 0)) (ow G o (vp_updL f 0 (Int32.toInt64 r)) :: w')) := by
  refine CtH.of (by decide +kernel) (Nat.le_of_ble_eq_true rfl) (fun K X hnf hex => ?_)
  show Lb K G _ _ 4 0 [(0, .ref (xa σ 0)), (1, .int x1), (2, .ref o)] [] _ 0 0
  refine b_aload_n X d_L_alternative_0 2 rfl rfl ?_
  refine b_iconst X (v := 0) d_L_alternative_1 (by decide) ?_
  refine b_aload_n X d_L_alternative_2 0 rfl rfl ?_
  refine b_iload_n X d_L_alternative_3 1 rfl rfl ?_
  refine b_callV1 X cf_F_alternative ci_F_alternative ml_L_15 ct 0 rfl rfl (As := [.int x1]) (rest := [.int 0, .ref o]) rfl (Nat.le_of_ble_eq_true rfl) ⟨Nat.le_refl _, Nat.le_refl _⟩ ⟨Nat.le_of_eq (Nat.zero_add _), Nat.le_of_eq (Nat.zero_add _)⟩ rfl d_L_alternative_4 (fun v w'' hp => ?_)
  obtain ⟨rfl, rfl⟩ := hp
  refine Lb.eq (st' := .int r :: [.int 0, .ref o]) rfl rfl rfl ?_
  refine b_i2l X (v := (Int32.toInt64 r)) d_L_alternative_7 rfl ?_
  refine b_last X 0 rfl (by decide) 0 rfl (by decide) rfl d_L_alternative_8 ?_
  refine b_goto X (tgt := 18) d_L_alternative_9 (by decide) ?_
  refine b_iconst X (v := 0) d_L_alternative_18 (by decide) ?_
  refine Lb.widen (Nat.le_of_eq (Nat.zero_add _)) (Nat.le_of_eq (Nat.zero_add _)) ?_
  exact b_iret X (rm := (rmh 2 rm')) d_L_alternative_19 ⟨rfl, rfl⟩
theorem hz_L_alternative_1 (G : GG) (σ : St) (o : Nat) (f : Nat → Int64) (x1 : Int32) {rm' : Room} {w' : va_W} (ct : CtT y_F_alternative c_F_alternative 2 (some .int) rm' G [.ref (xa σ 0), .int x1] (WC G σ) "java/lang/IndexOutOfBoundsException" (fun w'' => w'' = w')) : CtH y_L_alternative c_L_alternative 4 (some .int) hs_L_alternative (rmh 2 rm') G [.ref (xa σ 0), .int x1, .ref o] (ow G o f :: WC G σ) (eqp (some (.int 1)) (ow G o f :: w')) := by
  refine CtH.of (by decide +kernel) (Nat.le_of_ble_eq_true rfl) (fun K X hnf hex => ?_)
  show Lb K G _ _ 4 0 [(0, .ref (xa σ 0)), (1, .int x1), (2, .ref o)] [] _ 0 0
  refine b_aload_n X d_L_alternative_0 2 rfl rfl ?_
  refine b_iconst X (v := 0) d_L_alternative_1 (by decide) ?_
  refine b_aload_n X d_L_alternative_2 0 rfl rfl ?_
  refine b_iload_n X d_L_alternative_3 1 rfl rfl ?_
  refine b_callT1 X cf_F_alternative ci_F_alternative ml_L_15 ct 0 rfl rfl (As := [.int x1]) (rest := [.int 0, .ref o]) rfl (Nat.le_of_ble_eq_true rfl) ⟨Nat.le_refl _, Nat.le_refl _⟩ ⟨Nat.le_of_eq (Nat.zero_add _), Nat.le_of_eq (Nat.zero_add _)⟩ rfl d_L_alternative_4 (fun w'' hp => ?_)
  subst hp
  refine b_catch X hnf hex [] (0, 9, 12, 19) [(0, 9, 15, 13)] rfl (fun y hy => by cases hy) ⟨by decide, by decide, by decide, ws_2 213 rfl rfl, List.mem_of_getElem? (i := 11) rfl⟩ (fun a => ?_)
  refine b_astore_n X d_L_alternative_12 rfl (by decide) [] rfl ?_
  refine b_iconst X (v := 1) d_L_alternative_13 (by decide) ?_
  refine Lb.widen (Nat.le_of_eq (Nat.zero_add _)) (Nat.le_of_eq (Nat.zero_add _)) ?_
  exact b_iret X (rm := (rmh 2 rm')) d_L_alternative_14 ⟨rfl, rfl⟩
theorem hz_L_alternative_2 (G : GG) (σ : St) (o : Nat) (f : Nat → Int64) (x1 : Int32) {rm' : Room} {w' : va_W} (ct : CtT y_F_alternative c_F_alternative 2 (some .int) rm' G [.ref (xa σ 0), .int x1] (WC G σ) "java/lang/UnsupportedOperationException" (fun w'' => w'' = w')) : CtH y_L_alternative c_L_alternative 4 (some .int) hs_L_alternative (rmh 2 rm') G [.ref (xa σ 0), .int x1, .ref o] (ow G o f :: WC G σ) (eqp (some (.int 2)) (ow G o f :: w')) := by
  refine CtH.of (by decide +kernel) (Nat.le_of_ble_eq_true rfl) (fun K X hnf hex => ?_)
  show Lb K G _ _ 4 0 [(0, .ref (xa σ 0)), (1, .int x1), (2, .ref o)] [] _ 0 0
  refine b_aload_n X d_L_alternative_0 2 rfl rfl ?_
  refine b_iconst X (v := 0) d_L_alternative_1 (by decide) ?_
  refine b_aload_n X d_L_alternative_2 0 rfl rfl ?_
  refine b_iload_n X d_L_alternative_3 1 rfl rfl ?_
  refine b_callT1 X cf_F_alternative ci_F_alternative ml_L_15 ct 0 rfl rfl (As := [.int x1]) (rest := [.int 0, .ref o]) rfl (Nat.le_of_ble_eq_true rfl) ⟨Nat.le_refl _, Nat.le_refl _⟩ ⟨Nat.le_of_eq (Nat.zero_add _), Nat.le_of_eq (Nat.zero_add _)⟩ rfl d_L_alternative_4 (fun w'' hp => ?_)
  subst hp
  refine b_catch X hnf hex [(0, 9, 12, 19)] (0, 9, 15, 13) [] rfl (by
    intro y hy
    simp only [List.mem_cons, List.not_mem_nil, or_false] at hy
    rcases hy with rfl
    · exact ⟨by decide, by decide, by decide, "java/lang/IndexOutOfBoundsException", ws_2 213 rfl rfl, by decide +kernel⟩) ⟨by decide, by decide, by decide, ws_2 131 rfl rfl, List.mem_of_getElem? (i := 4) rfl⟩ (fun a => ?_)
  refine b_astore_n X d_L_alternative_15 rfl (by decide) [] rfl ?_
  refine b_iconst X (v := 2) d_L_alternative_16 (by decide) ?_
  refine Lb.widen (Nat.le_of_eq (Nat.zero_add _)) (Nat.le_of_eq (Nat.zero_add _)) ?_
  exact b_iret X (rm := (rmh 2 rm')) d_L_alternative_17 ⟨rfl, rfl⟩
abbrev hs_L_symbol : EX := [(0, 10, 13, 19), (0, 10, 17, 25), (0, 10, 21, 27), (0, 10, 25, 13)]
set_option maxRecDepth 20000 in
theorem cfh_L_symbol : CFH y_L_symbol c_L_symbol 5 (some .int) hs_L_symbol 4 := ⟨ws_3 11 rfl rfl, ws_1 0 rfl rfl, ⟨by decide +kernel, by decide +kernel⟩, by decide +kernel, ws_3 10 rfl rfl⟩
theorem hn_L_symbol (G : GG) (σ : St) (o : Nat) (f : Nat → Int64) (x1 : Int32) (x2 : Int32) {rm' : Room} {w' : va_W} (r : Int32) (ct : Ct y_F_symbol c_F_symbol 3 (some .int) rm' G [.ref (xa σ 0), .int x1, .int x2] (WC G σ) (eqp (some (.int r)) w')) : CtH y_L_symbol c_L_symbol 5 (some .int) hs_L_symbol (rmh 3 rm') G [.ref (xa σ 0), .int x1, .int x2, .ref o] (ow G o f :: WC G σ) (eqp (some (.int 0)) (ow G o (vp_updL f 0 (Int32.toInt64 r)) :: w')) := by
  refine CtH.of (by decide +kernel) (Nat.le_of_ble_eq_true rfl) (fun K X hnf hex => ?_)
  show Lb K G _ _ 5 0 [(0, .ref (xa σ 0)), (1, .int x1), (2, .int x2), (3, .ref o)] [] _ 0 0
  refine b_aload_n X d_L_symbol_0 3 rfl rfl ?_
  refine b_iconst X (v := 0) d_L_symbol_1 (by decide) ?_
  refine b_aload_n X d_L_symbol_2 0 rfl rfl ?_
  refine b_iload_n X d_L_symbol_3 1 rfl rfl ?_
  refine b_iload_n X d_L_symbol_4 2 rfl rfl ?_
  refine b_callV1 X cf_F_symbol ci_F_symbol ml_L_21 ct 0 rfl rfl (As := [.int x1, .int x2]) (rest := [.int 0, .ref o]) rfl (Nat.le_of_ble_eq_true rfl) ⟨Nat.le_refl _, Nat.le_refl _⟩ ⟨Nat.le_of_eq (Nat.zero_add _), Nat.le_of_eq (Nat.zero_add _)⟩ rfl d_L_symbol_5 (fun v w'' hp => ?_)
  obtain ⟨rfl, rfl⟩ := hp
  refine Lb.eq (st' := .int r :: [.int 0, .ref o]) rfl rfl rfl ?_
  refine b_i2l X (v := (Int32.toInt64 r)) d_L_symbol_8 rfl ?_
  refine b_last X 0 rfl (by decide) 0 rfl (by decide) rfl d_L_symbol_9 ?_
  refine b_goto X (tgt := 29) d_L_symbol_10 (by decide) ?_
  refine b_iconst X (v := 0) d_L_symbol_29 (by decide) ?_
  refine Lb.widen (Nat.le_of_eq (Nat.zero_add _)) (Nat.le_of_eq (Nat.zero_add _)) ?_
  exact b_iret X (rm := (rmh 3 rm')) d_L_symbol_30 ⟨rfl, rfl⟩
theorem hz_L_symbol_1 (G : GG) (σ : St) (o : Nat) (f : Nat → Int64) (x1 : Int32) (x2 : Int32) {rm' : Room} {w' : va_W} (ct : CtT y_F_symbol c_F_symbol 3 (some .int) rm' G [.ref (xa σ 0), .int x1, .int x2] (WC G σ) "java/lang/IndexOutOfBoundsException" (fun w'' => w'' = w')) : CtH y_L_symbol c_L_symbol 5 (some .int) hs_L_symbol (rmh 3 rm') G [.ref (xa σ 0), .int x1, .int x2, .ref o] (ow G o f :: WC G σ) (eqp (some (.int 1)) (ow G o f :: w')) := by
  refine CtH.of (by decide +kernel) (Nat.le_of_ble_eq_true rfl) (fun K X hnf hex => ?_)
  show Lb K G _ _ 5 0 [(0, .ref (xa σ 0)), (1, .int x1), (2, .int x2), (3, .ref o)] [] _ 0 0
  refine b_aload_n X d_L_symbol_0 3 rfl rfl ?_
  refine b_iconst X (v := 0) d_L_symbol_1 (by decide) ?_
  refine b_aload_n X d_L_symbol_2 0 rfl rfl ?_
  refine b_iload_n X d_L_symbol_3 1 rfl rfl ?_
  refine b_iload_n X d_L_symbol_4 2 rfl rfl ?_
  refine b_callT1 X cf_F_symbol ci_F_symbol ml_L_21 ct 0 rfl rfl (As := [.int x1, .int x2]) (rest := [.int 0, .ref o]) rfl (Nat.le_of_ble_eq_true rfl) ⟨Nat.le_refl _, Nat.le_refl _⟩ ⟨Nat.le_of_eq (Nat.zero_add _), Nat.le_of_eq (Nat.zero_add _)⟩ rfl d_L_symbol_5 (fun w'' hp => ?_)
  subst hp
  refine b_catch X hnf hex [] (0, 10, 13, 19) [(0, 10, 17, 25), (0, 10, 21, 27), (0, 10, 25, 13)] rfl (fun y hy => by cases hy) ⟨by decide, by decide, by decide, ws_2 213 rfl rfl, List.mem_of_getElem? (i := 11) rfl⟩ (fun a => ?_)
  refine b_astore X d_L_symbol_13 (by decide) [] rfl ?_
  refine b_iconst X (v := 1) d_L_symbol_15 (by decide) ?_
  refine Lb.widen (Nat.le_of_eq (Nat.zero_add _)) (Nat.le_of_eq (Nat.zero_add _)) ?_
  exact b_iret X (rm := (rmh 3 rm')) d_L_symbol_16 ⟨rfl, rfl⟩
theorem hz_L_symbol_2 (G : GG) (σ : St) (o : Nat) (f : Nat → Int64) (x1 : Int32) (x2 : Int32) {rm' : Room} {w' : va_W} (ct : CtT y_F_symbol c_F_symbol 3 (some .int) rm' G [.ref (xa σ 0), .int x1, .int x2] (WC G σ) "java/lang/IllegalArgumentException" (fun w'' => w'' = w')) : CtH y_L_symbol c_L_symbol 5 (some .int) hs_L_symbol (rmh 3 rm') G [.ref (xa σ 0), .int x1, .int x2, .ref o] (ow G o f :: WC G σ) (eqp (some (.int 2)) (ow G o f :: w')) := by
  refine CtH.of (by decide +kernel) (Nat.le_of_ble_eq_true rfl) (fun K X hnf hex => ?_)
  show Lb K G _ _ 5 0 [(0, .ref (xa σ 0)), (1, .int x1), (2, .int x2), (3, .ref o)] [] _ 0 0
  refine b_aload_n X d_L_symbol_0 3 rfl rfl ?_
  refine b_iconst X (v := 0) d_L_symbol_1 (by decide) ?_
  refine b_aload_n X d_L_symbol_2 0 rfl rfl ?_
  refine b_iload_n X d_L_symbol_3 1 rfl rfl ?_
  refine b_iload_n X d_L_symbol_4 2 rfl rfl ?_
  refine b_callT1 X cf_F_symbol ci_F_symbol ml_L_21 ct 0 rfl rfl (As := [.int x1, .int x2]) (rest := [.int 0, .ref o]) rfl (Nat.le_of_ble_eq_true rfl) ⟨Nat.le_refl _, Nat.le_refl _⟩ ⟨Nat.le_of_eq (Nat.zero_add _), Nat.le_of_eq (Nat.zero_add _)⟩ rfl d_L_symbol_5 (fun w'' hp => ?_)
  subst hp
  refine b_catch X hnf hex [(0, 10, 13, 19)] (0, 10, 17, 25) [(0, 10, 21, 27), (0, 10, 25, 13)] rfl (by
    intro y hy
    simp only [List.mem_cons, List.not_mem_nil, or_false] at hy
    rcases hy with rfl
    · exact ⟨by decide, by decide, by decide, "java/lang/IndexOutOfBoundsException", ws_2 213 rfl rfl, by decide +kernel⟩) ⟨by decide, by decide, by decide, ws_3 12 rfl rfl, List.mem_of_getElem? (i := 12) rfl⟩ (fun a => ?_)
  refine b_astore X d_L_symbol_17 (by decide) [] rfl ?_
  refine b_iconst X (v := 2) d_L_symbol_19 (by decide) ?_
  refine Lb.widen (Nat.le_of_eq (Nat.zero_add _)) (Nat.le_of_eq (Nat.zero_add _)) ?_
  exact b_iret X (rm := (rmh 3 rm')) d_L_symbol_20 ⟨rfl, rfl⟩
theorem hz_L_symbol_3 (G : GG) (σ : St) (o : Nat) (f : Nat → Int64) (x1 : Int32) (x2 : Int32) {rm' : Room} {w' : va_W} (ct : CtT y_F_symbol c_F_symbol 3 (some .int) rm' G [.ref (xa σ 0), .int x1, .int x2] (WC G σ) "java/lang/IllegalStateException" (fun w'' => w'' = w')) : CtH y_L_symbol c_L_symbol 5 (some .int) hs_L_symbol (rmh 3 rm') G [.ref (xa σ 0), .int x1, .int x2, .ref o] (ow G o f :: WC G σ) (eqp (some (.int 3)) (ow G o f :: w')) := by
  refine CtH.of (by decide +kernel) (Nat.le_of_ble_eq_true rfl) (fun K X hnf hex => ?_)
  show Lb K G _ _ 5 0 [(0, .ref (xa σ 0)), (1, .int x1), (2, .int x2), (3, .ref o)] [] _ 0 0
  refine b_aload_n X d_L_symbol_0 3 rfl rfl ?_
  refine b_iconst X (v := 0) d_L_symbol_1 (by decide) ?_
  refine b_aload_n X d_L_symbol_2 0 rfl rfl ?_
  refine b_iload_n X d_L_symbol_3 1 rfl rfl ?_
  refine b_iload_n X d_L_symbol_4 2 rfl rfl ?_
  refine b_callT1 X cf_F_symbol ci_F_symbol ml_L_21 ct 0 rfl rfl (As := [.int x1, .int x2]) (rest := [.int 0, .ref o]) rfl (Nat.le_of_ble_eq_true rfl) ⟨Nat.le_refl _, Nat.le_refl _⟩ ⟨Nat.le_of_eq (Nat.zero_add _), Nat.le_of_eq (Nat.zero_add _)⟩ rfl d_L_symbol_5 (fun w'' hp => ?_)
  subst hp
  refine b_catch X hnf hex [(0, 10, 13, 19), (0, 10, 17, 25)] (0, 10, 21, 27) [(0, 10, 25, 13)] rfl (by
    intro y hy
    simp only [List.mem_cons, List.not_mem_nil, or_false] at hy
    rcases hy with rfl | rfl
    · exact ⟨by decide, by decide, by decide, "java/lang/IndexOutOfBoundsException", ws_2 213 rfl rfl, by decide +kernel⟩
    · exact ⟨by decide, by decide, by decide, "java/lang/IllegalArgumentException", ws_3 12 rfl rfl, by decide +kernel⟩) ⟨by decide, by decide, by decide, ws_3 13 rfl rfl, List.mem_of_getElem? (i := 13) rfl⟩ (fun a => ?_)
  refine b_astore X d_L_symbol_21 (by decide) [] rfl ?_
  refine b_iconst X (v := 3) d_L_symbol_23 (by decide) ?_
  refine Lb.widen (Nat.le_of_eq (Nat.zero_add _)) (Nat.le_of_eq (Nat.zero_add _)) ?_
  exact b_iret X (rm := (rmh 3 rm')) d_L_symbol_24 ⟨rfl, rfl⟩
theorem hz_L_symbol_4 (G : GG) (σ : St) (o : Nat) (f : Nat → Int64) (x1 : Int32) (x2 : Int32) {rm' : Room} {w' : va_W} (ct : CtT y_F_symbol c_F_symbol 3 (some .int) rm' G [.ref (xa σ 0), .int x1, .int x2] (WC G σ) "java/lang/UnsupportedOperationException" (fun w'' => w'' = w')) : CtH y_L_symbol c_L_symbol 5 (some .int) hs_L_symbol (rmh 3 rm') G [.ref (xa σ 0), .int x1, .int x2, .ref o] (ow G o f :: WC G σ) (eqp (some (.int 4)) (ow G o f :: w')) := by
  refine CtH.of (by decide +kernel) (Nat.le_of_ble_eq_true rfl) (fun K X hnf hex => ?_)
  show Lb K G _ _ 5 0 [(0, .ref (xa σ 0)), (1, .int x1), (2, .int x2), (3, .ref o)] [] _ 0 0
  refine b_aload_n X d_L_symbol_0 3 rfl rfl ?_
  refine b_iconst X (v := 0) d_L_symbol_1 (by decide) ?_
  refine b_aload_n X d_L_symbol_2 0 rfl rfl ?_
  refine b_iload_n X d_L_symbol_3 1 rfl rfl ?_
  refine b_iload_n X d_L_symbol_4 2 rfl rfl ?_
  refine b_callT1 X cf_F_symbol ci_F_symbol ml_L_21 ct 0 rfl rfl (As := [.int x1, .int x2]) (rest := [.int 0, .ref o]) rfl (Nat.le_of_ble_eq_true rfl) ⟨Nat.le_refl _, Nat.le_refl _⟩ ⟨Nat.le_of_eq (Nat.zero_add _), Nat.le_of_eq (Nat.zero_add _)⟩ rfl d_L_symbol_5 (fun w'' hp => ?_)
  subst hp
  refine b_catch X hnf hex [(0, 10, 13, 19), (0, 10, 17, 25), (0, 10, 21, 27)] (0, 10, 25, 13) [] rfl (by
    intro y hy
    simp only [List.mem_cons, List.not_mem_nil, or_false] at hy
    rcases hy with rfl | rfl | rfl
    · exact ⟨by decide, by decide, by decide, "java/lang/IndexOutOfBoundsException", ws_2 213 rfl rfl, by decide +kernel⟩
    · exact ⟨by decide, by decide, by decide, "java/lang/IllegalArgumentException", ws_3 12 rfl rfl, by decide +kernel⟩
    · exact ⟨by decide, by decide, by decide, "java/lang/IllegalStateException", ws_3 13 rfl rfl, by decide +kernel⟩) ⟨by decide, by decide, by decide, ws_2 131 rfl rfl, List.mem_of_getElem? (i := 4) rfl⟩ (fun a => ?_)
  refine b_astore X d_L_symbol_25 (by decide) [] rfl ?_
  refine b_iconst X (v := 4) d_L_symbol_27 (by decide) ?_
  refine Lb.widen (Nat.le_of_eq (Nat.zero_add _)) (Nat.le_of_eq (Nat.zero_add _)) ?_
  exact b_iret X (rm := (rmh 3 rm')) d_L_symbol_28 ⟨rfl, rfl⟩
abbrev hs_L_token : EX := [(0, 9, 12, 25), (0, 9, 15, 13)]
set_option maxRecDepth 20000 in
theorem cfh_L_token : CFH y_L_token c_L_token 4 (some .int) hs_L_token 3 := ⟨ws_3 59 rfl rfl, ws_1 0 rfl rfl, ⟨by decide +kernel, by decide +kernel⟩, by decide +kernel, ws_3 58 rfl rfl⟩
theorem hn_L_token (G : GG) (σ : St) (o : Nat) (f : Nat → Int64) (x1 : Int32) {rm' : Room} {w' : va_W} (r : Int32) (ct : Ct y_F_token c_F_token 2 (some .int) rm' G [.ref (xa σ 0), .int x1] (WC G σ) (eqp (some (.int r)) w')) : CtH y_L_token c_L_token 4 (some .int) hs_L_token (rmh 2 rm') G [.ref (xa σ 0), .int x1, .ref o] (ow G o f :: WC G σ) (eqp (some (.int 0)) (ow G o (vp_updL f 0 (Int32.toInt64 r)) :: w')) := by
  refine CtH.of (by decide +kernel) (Nat.le_of_ble_eq_true rfl) (fun K X hnf hex => ?_)
  show Lb K G _ _ 4 0 [(0, .ref (xa σ 0)), (1, .int x1), (2, .ref o)] [] _ 0 0
  refine b_aload_n X d_L_token_0 2 rfl rfl ?_
  refine b_iconst X (v := 0) d_L_token_1 (by decide) ?_
  refine b_aload_n X d_L_token_2 0 rfl rfl ?_
  refine b_iload_n X d_L_token_3 1 rfl rfl ?_
  refine b_callV1 X cf_F_token ci_F_token ml_L_29 ct 0 rfl rfl (As := [.int x1]) (rest := [.int 0, .ref o]) rfl (Nat.le_of_ble_eq_true rfl) ⟨Nat.le_refl _, Nat.le_refl _⟩ ⟨Nat.le_of_eq (Nat.zero_add _), Nat.le_of_eq (Nat.zero_add _)⟩ rfl d_L_token_4 (fun v w'' hp => ?_)
  obtain ⟨rfl, rfl⟩ := hp
  refine Lb.eq (st' := .int r :: [.int 0, .ref o]) rfl rfl rfl ?_
  refine b_i2l X (v := (Int32.toInt64 r)) d_L_token_7 rfl ?_
  refine b_last X 0 rfl (by decide) 0 rfl (by decide) rfl d_L_token_8 ?_
  refine b_goto X (tgt := 18) d_L_token_9 (by decide) ?_
  refine b_iconst X (v := 0) d_L_token_18 (by decide) ?_
  refine Lb.widen (Nat.le_of_eq (Nat.zero_add _)) (Nat.le_of_eq (Nat.zero_add _)) ?_
  exact b_iret X (rm := (rmh 2 rm')) d_L_token_19 ⟨rfl, rfl⟩
theorem hz_L_token_1 (G : GG) (σ : St) (o : Nat) (f : Nat → Int64) (x1 : Int32) {rm' : Room} {w' : va_W} (ct : CtT y_F_token c_F_token 2 (some .int) rm' G [.ref (xa σ 0), .int x1] (WC G σ) "java/lang/IllegalArgumentException" (fun w'' => w'' = w')) : CtH y_L_token c_L_token 4 (some .int) hs_L_token (rmh 2 rm') G [.ref (xa σ 0), .int x1, .ref o] (ow G o f :: WC G σ) (eqp (some (.int 1)) (ow G o f :: w')) := by
  refine CtH.of (by decide +kernel) (Nat.le_of_ble_eq_true rfl) (fun K X hnf hex => ?_)
  show Lb K G _ _ 4 0 [(0, .ref (xa σ 0)), (1, .int x1), (2, .ref o)] [] _ 0 0
  refine b_aload_n X d_L_token_0 2 rfl rfl ?_
  refine b_iconst X (v := 0) d_L_token_1 (by decide) ?_
  refine b_aload_n X d_L_token_2 0 rfl rfl ?_
  refine b_iload_n X d_L_token_3 1 rfl rfl ?_
  refine b_callT1 X cf_F_token ci_F_token ml_L_29 ct 0 rfl rfl (As := [.int x1]) (rest := [.int 0, .ref o]) rfl (Nat.le_of_ble_eq_true rfl) ⟨Nat.le_refl _, Nat.le_refl _⟩ ⟨Nat.le_of_eq (Nat.zero_add _), Nat.le_of_eq (Nat.zero_add _)⟩ rfl d_L_token_4 (fun w'' hp => ?_)
  subst hp
  refine b_catch X hnf hex [] (0, 9, 12, 25) [(0, 9, 15, 13)] rfl (fun y hy => by cases hy) ⟨by decide, by decide, by decide, ws_3 12 rfl rfl, List.mem_of_getElem? (i := 12) rfl⟩ (fun a => ?_)
  refine b_astore_n X d_L_token_12 rfl (by decide) [] rfl ?_
  refine b_iconst X (v := 1) d_L_token_13 (by decide) ?_
  refine Lb.widen (Nat.le_of_eq (Nat.zero_add _)) (Nat.le_of_eq (Nat.zero_add _)) ?_
  exact b_iret X (rm := (rmh 2 rm')) d_L_token_14 ⟨rfl, rfl⟩
theorem hz_L_token_2 (G : GG) (σ : St) (o : Nat) (f : Nat → Int64) (x1 : Int32) {rm' : Room} {w' : va_W} (ct : CtT y_F_token c_F_token 2 (some .int) rm' G [.ref (xa σ 0), .int x1] (WC G σ) "java/lang/UnsupportedOperationException" (fun w'' => w'' = w')) : CtH y_L_token c_L_token 4 (some .int) hs_L_token (rmh 2 rm') G [.ref (xa σ 0), .int x1, .ref o] (ow G o f :: WC G σ) (eqp (some (.int 2)) (ow G o f :: w')) := by
  refine CtH.of (by decide +kernel) (Nat.le_of_ble_eq_true rfl) (fun K X hnf hex => ?_)
  show Lb K G _ _ 4 0 [(0, .ref (xa σ 0)), (1, .int x1), (2, .ref o)] [] _ 0 0
  refine b_aload_n X d_L_token_0 2 rfl rfl ?_
  refine b_iconst X (v := 0) d_L_token_1 (by decide) ?_
  refine b_aload_n X d_L_token_2 0 rfl rfl ?_
  refine b_iload_n X d_L_token_3 1 rfl rfl ?_
  refine b_callT1 X cf_F_token ci_F_token ml_L_29 ct 0 rfl rfl (As := [.int x1]) (rest := [.int 0, .ref o]) rfl (Nat.le_of_ble_eq_true rfl) ⟨Nat.le_refl _, Nat.le_refl _⟩ ⟨Nat.le_of_eq (Nat.zero_add _), Nat.le_of_eq (Nat.zero_add _)⟩ rfl d_L_token_4 (fun w'' hp => ?_)
  subst hp
  refine b_catch X hnf hex [(0, 9, 12, 25)] (0, 9, 15, 13) [] rfl (by
    intro y hy
    simp only [List.mem_cons, List.not_mem_nil, or_false] at hy
    rcases hy with rfl
    · exact ⟨by decide, by decide, by decide, "java/lang/IllegalArgumentException", ws_3 12 rfl rfl, by decide +kernel⟩) ⟨by decide, by decide, by decide, ws_2 131 rfl rfl, List.mem_of_getElem? (i := 4) rfl⟩ (fun a => ?_)
  refine b_astore_n X d_L_token_15 rfl (by decide) [] rfl ?_
  refine b_iconst X (v := 2) d_L_token_16 (by decide) ?_
  refine Lb.widen (Nat.le_of_eq (Nat.zero_add _)) (Nat.le_of_eq (Nat.zero_add _)) ?_
  exact b_iret X (rm := (rmh 2 rm')) d_L_token_17 ⟨rfl, rfl⟩
abbrev hs_L_keep : EX := [(0, 5, 8, 25)]
set_option maxRecDepth 20000 in
theorem cfh_L_keep : CFH y_L_keep c_L_keep 3 (some .int) hs_L_keep 2 := ⟨ws_3 76 rfl rfl, ws_1 0 rfl rfl, ⟨by decide +kernel, by decide +kernel⟩, by decide +kernel, ws_3 75 rfl rfl⟩
theorem hn_L_keep (G : GG) (σ : St) (o : Nat) (f : Nat → Int64) (x1 : Int32) {rm' : Room} {w' : va_W}  (ct : Ct y_F_keep c_F_keep 2 none rm' G [.ref (xa σ 0), .int x1] (WC G σ) (eqp none w')) : CtH y_L_keep c_L_keep 3 (some .int) hs_L_keep (rmh 2 rm') G [.ref (xa σ 0), .int x1] (ow G o f :: WC G σ) (eqp (some (.int 0)) (ow G o f :: w')) := by
  refine CtH.of (by decide +kernel) (Nat.le_of_ble_eq_true rfl) (fun K X hnf hex => ?_)
  show Lb K G _ _ 3 0 [(0, .ref (xa σ 0)), (1, .int x1)] [] _ 0 0
  refine b_aload_n X d_L_keep_0 0 rfl rfl ?_
  refine b_iload_n X d_L_keep_1 1 rfl rfl ?_
  refine b_callV1 X cf_F_keep ci_F_keep ml_L_32 ct 0 rfl rfl (As := [.int x1]) (rest := []) rfl (Nat.le_of_ble_eq_true rfl) ⟨Nat.le_refl _, Nat.le_refl _⟩ ⟨Nat.le_of_eq (Nat.zero_add _), Nat.le_of_eq (Nat.zero_add _)⟩ rfl d_L_keep_2 (fun v w'' hp => ?_)
  obtain ⟨rfl, rfl⟩ := hp
  refine Lb.eq (st' := []) rfl rfl rfl ?_
  refine b_goto X (tgt := 11) d_L_keep_5 (by decide) ?_
  refine b_iconst X (v := 0) d_L_keep_11 (by decide) ?_
  refine Lb.widen (Nat.le_of_eq (Nat.zero_add _)) (Nat.le_of_eq (Nat.zero_add _)) ?_
  exact b_iret X (rm := (rmh 2 rm')) d_L_keep_12 ⟨rfl, rfl⟩
theorem hz_L_keep_1 (G : GG) (σ : St) (o : Nat) (f : Nat → Int64) (x1 : Int32) {rm' : Room} {w' : va_W} (ct : CtT y_F_keep c_F_keep 2 none rm' G [.ref (xa σ 0), .int x1] (WC G σ) "java/lang/IllegalArgumentException" (fun w'' => w'' = w')) : CtH y_L_keep c_L_keep 3 (some .int) hs_L_keep (rmh 2 rm') G [.ref (xa σ 0), .int x1] (ow G o f :: WC G σ) (eqp (some (.int 1)) (ow G o f :: w')) := by
  refine CtH.of (by decide +kernel) (Nat.le_of_ble_eq_true rfl) (fun K X hnf hex => ?_)
  show Lb K G _ _ 3 0 [(0, .ref (xa σ 0)), (1, .int x1)] [] _ 0 0
  refine b_aload_n X d_L_keep_0 0 rfl rfl ?_
  refine b_iload_n X d_L_keep_1 1 rfl rfl ?_
  refine b_callT1 X cf_F_keep ci_F_keep ml_L_32 ct 0 rfl rfl (As := [.int x1]) (rest := []) rfl (Nat.le_of_ble_eq_true rfl) ⟨Nat.le_refl _, Nat.le_refl _⟩ ⟨Nat.le_of_eq (Nat.zero_add _), Nat.le_of_eq (Nat.zero_add _)⟩ rfl d_L_keep_2 (fun w'' hp => ?_)
  subst hp
  refine b_catch X hnf hex [] (0, 5, 8, 25) [] rfl (fun y hy => by cases hy) ⟨by decide, by decide, by decide, ws_3 12 rfl rfl, List.mem_of_getElem? (i := 12) rfl⟩ (fun a => ?_)
  refine b_astore_n X d_L_keep_8 rfl (by decide) [] rfl ?_
  refine b_iconst X (v := 1) d_L_keep_9 (by decide) ?_
  refine Lb.widen (Nat.le_of_eq (Nat.zero_add _)) (Nat.le_of_eq (Nat.zero_add _)) ?_
  exact b_iret X (rm := (rmh 2 rm')) d_L_keep_10 ⟨rfl, rfl⟩
abbrev hs_L_parse : EX := [(0, 8, 11, 27), (0, 8, 14, 13)]
set_option maxRecDepth 20000 in
theorem cfh_L_parse : CFH y_L_parse c_L_parse 3 (some .int) hs_L_parse 2 := ⟨ws_3 88 rfl rfl, ws_1 0 rfl rfl, ⟨by decide +kernel, by decide +kernel⟩, by decide +kernel, ws_3 87 rfl rfl⟩
theorem hn_L_parse (G : GG) (σ : St) (o : Nat) (f : Nat → Int64)  {rm' : Room} {w' : va_W} (r : Int32) (ct : Ct y_F_parse c_F_parse 2 (some .int) rm' G [.ref (xa σ 0)] (WC G σ) (eqp (some (.int r)) w')) : CtH y_L_parse c_L_parse 3 (some .int) hs_L_parse (rmh 2 rm') G [.ref (xa σ 0), .ref o] (ow G o f :: WC G σ) (eqp (some (.int 0)) (ow G o (vp_updL f 0 (Int32.toInt64 r)) :: w')) := by
  refine CtH.of (by decide +kernel) (Nat.le_of_ble_eq_true rfl) (fun K X hnf hex => ?_)
  show Lb K G _ _ 3 0 [(0, .ref (xa σ 0)), (1, .ref o)] [] _ 0 0
  refine b_aload_n X d_L_parse_0 1 rfl rfl ?_
  refine b_iconst X (v := 0) d_L_parse_1 (by decide) ?_
  refine b_aload_n X d_L_parse_2 0 rfl rfl ?_
  refine b_callV1 X cf_F_parse ci_F_parse ml_L_36 ct 0 rfl rfl (As := []) (rest := [.int 0, .ref o]) rfl (Nat.le_of_ble_eq_true rfl) ⟨Nat.le_refl _, Nat.le_refl _⟩ ⟨Nat.le_of_eq (Nat.zero_add _), Nat.le_of_eq (Nat.zero_add _)⟩ rfl d_L_parse_3 (fun v w'' hp => ?_)
  obtain ⟨rfl, rfl⟩ := hp
  refine Lb.eq (st' := .int r :: [.int 0, .ref o]) rfl rfl rfl ?_
  refine b_i2l X (v := (Int32.toInt64 r)) d_L_parse_6 rfl ?_
  refine b_last X 0 rfl (by decide) 0 rfl (by decide) rfl d_L_parse_7 ?_
  refine b_goto X (tgt := 17) d_L_parse_8 (by decide) ?_
  refine b_iconst X (v := 0) d_L_parse_17 (by decide) ?_
  refine Lb.widen (Nat.le_of_eq (Nat.zero_add _)) (Nat.le_of_eq (Nat.zero_add _)) ?_
  exact b_iret X (rm := (rmh 2 rm')) d_L_parse_18 ⟨rfl, rfl⟩
theorem hz_L_parse_1 (G : GG) (σ : St) (o : Nat) (f : Nat → Int64)  {rm' : Room} {w' : va_W} (ct : CtT y_F_parse c_F_parse 2 (some .int) rm' G [.ref (xa σ 0)] (WC G σ) "java/lang/IllegalStateException" (fun w'' => w'' = w')) : CtH y_L_parse c_L_parse 3 (some .int) hs_L_parse (rmh 2 rm') G [.ref (xa σ 0), .ref o] (ow G o f :: WC G σ) (eqp (some (.int 1)) (ow G o f :: w')) := by
  refine CtH.of (by decide +kernel) (Nat.le_of_ble_eq_true rfl) (fun K X hnf hex => ?_)
  show Lb K G _ _ 3 0 [(0, .ref (xa σ 0)), (1, .ref o)] [] _ 0 0
  refine b_aload_n X d_L_parse_0 1 rfl rfl ?_
  refine b_iconst X (v := 0) d_L_parse_1 (by decide) ?_
  refine b_aload_n X d_L_parse_2 0 rfl rfl ?_
  refine b_callT1 X cf_F_parse ci_F_parse ml_L_36 ct 0 rfl rfl (As := []) (rest := [.int 0, .ref o]) rfl (Nat.le_of_ble_eq_true rfl) ⟨Nat.le_refl _, Nat.le_refl _⟩ ⟨Nat.le_of_eq (Nat.zero_add _), Nat.le_of_eq (Nat.zero_add _)⟩ rfl d_L_parse_3 (fun w'' hp => ?_)
  subst hp
  refine b_catch X hnf hex [] (0, 8, 11, 27) [(0, 8, 14, 13)] rfl (fun y hy => by cases hy) ⟨by decide, by decide, by decide, ws_3 13 rfl rfl, List.mem_of_getElem? (i := 13) rfl⟩ (fun a => ?_)
  refine b_astore_n X d_L_parse_11 rfl (by decide) [] rfl ?_
  refine b_iconst X (v := 1) d_L_parse_12 (by decide) ?_
  refine Lb.widen (Nat.le_of_eq (Nat.zero_add _)) (Nat.le_of_eq (Nat.zero_add _)) ?_
  exact b_iret X (rm := (rmh 2 rm')) d_L_parse_13 ⟨rfl, rfl⟩
theorem hz_L_parse_2 (G : GG) (σ : St) (o : Nat) (f : Nat → Int64)  {rm' : Room} {w' : va_W} (ct : CtT y_F_parse c_F_parse 2 (some .int) rm' G [.ref (xa σ 0)] (WC G σ) "java/lang/UnsupportedOperationException" (fun w'' => w'' = w')) : CtH y_L_parse c_L_parse 3 (some .int) hs_L_parse (rmh 2 rm') G [.ref (xa σ 0), .ref o] (ow G o f :: WC G σ) (eqp (some (.int 2)) (ow G o f :: w')) := by
  refine CtH.of (by decide +kernel) (Nat.le_of_ble_eq_true rfl) (fun K X hnf hex => ?_)
  show Lb K G _ _ 3 0 [(0, .ref (xa σ 0)), (1, .ref o)] [] _ 0 0
  refine b_aload_n X d_L_parse_0 1 rfl rfl ?_
  refine b_iconst X (v := 0) d_L_parse_1 (by decide) ?_
  refine b_aload_n X d_L_parse_2 0 rfl rfl ?_
  refine b_callT1 X cf_F_parse ci_F_parse ml_L_36 ct 0 rfl rfl (As := []) (rest := [.int 0, .ref o]) rfl (Nat.le_of_ble_eq_true rfl) ⟨Nat.le_refl _, Nat.le_refl _⟩ ⟨Nat.le_of_eq (Nat.zero_add _), Nat.le_of_eq (Nat.zero_add _)⟩ rfl d_L_parse_3 (fun w'' hp => ?_)
  subst hp
  refine b_catch X hnf hex [(0, 8, 11, 27)] (0, 8, 14, 13) [] rfl (by
    intro y hy
    simp only [List.mem_cons, List.not_mem_nil, or_false] at hy
    rcases hy with rfl
    · exact ⟨by decide, by decide, by decide, "java/lang/IllegalStateException", ws_3 13 rfl rfl, by decide +kernel⟩) ⟨by decide, by decide, by decide, ws_2 131 rfl rfl, List.mem_of_getElem? (i := 4) rfl⟩ (fun a => ?_)
  refine b_astore_n X d_L_parse_14 rfl (by decide) [] rfl ?_
  refine b_iconst X (v := 2) d_L_parse_15 (by decide) ?_
  refine Lb.widen (Nat.le_of_eq (Nat.zero_add _)) (Nat.le_of_eq (Nat.zero_add _)) ?_
  exact b_iret X (rm := (rmh 2 rm')) d_L_parse_16 ⟨rfl, rfl⟩
abbrev hs_L_node : EX := [(0, 10, 13, 19), (0, 10, 17, 25)]
set_option maxRecDepth 20000 in
theorem cfh_L_node : CFH y_L_node c_L_node 5 (some .int) hs_L_node 4 := ⟨ws_4 78 rfl rfl, ws_1 0 rfl rfl, ⟨by decide +kernel, by decide +kernel⟩, by decide +kernel, ws_4 77 rfl rfl⟩
theorem hn_L_node (G : GG) (σ : St) (o : Nat) (f : Nat → Int64) (x1 : Int32) (x2 : Int32) {rm' : Room} {w' : va_W} (r : Int32) (ct : Ct y_F_node c_F_node 3 (some .int) rm' G [.ref (xa σ 0), .int x1, .int x2] (WC G σ) (eqp (some (.int r)) w')) : CtH y_L_node c_L_node 5 (some .int) hs_L_node (rmh 3 rm') G [.ref (xa σ 0), .int x1, .int x2, .ref o] (ow G o f :: WC G σ) (eqp (some (.int 0)) (ow G o (vp_updL f 0 (Int32.toInt64 r)) :: w')) := by
  refine CtH.of (by decide +kernel) (Nat.le_of_ble_eq_true rfl) (fun K X hnf hex => ?_)
  show Lb K G _ _ 5 0 [(0, .ref (xa σ 0)), (1, .int x1), (2, .int x2), (3, .ref o)] [] _ 0 0
  refine b_aload_n X d_L_node_0 3 rfl rfl ?_
  refine b_iconst X (v := 0) d_L_node_1 (by decide) ?_
  refine b_aload_n X d_L_node_2 0 rfl rfl ?_
  refine b_iload_n X d_L_node_3 1 rfl rfl ?_
  refine b_iload_n X d_L_node_4 2 rfl rfl ?_
  refine b_callV1 X cf_F_node ci_F_node ml_L_39 ct 0 rfl rfl (As := [.int x1, .int x2]) (rest := [.int 0, .ref o]) rfl (Nat.le_of_ble_eq_true rfl) ⟨Nat.le_refl _, Nat.le_refl _⟩ ⟨Nat.le_of_eq (Nat.zero_add _), Nat.le_of_eq (Nat.zero_add _)⟩ rfl d_L_node_5 (fun v w'' hp => ?_)
  obtain ⟨rfl, rfl⟩ := hp
  refine Lb.eq (st' := .int r :: [.int 0, .ref o]) rfl rfl rfl ?_
  refine b_i2l X (v := (Int32.toInt64 r)) d_L_node_8 rfl ?_
  refine b_last X 0 rfl (by decide) 0 rfl (by decide) rfl d_L_node_9 ?_
  refine b_goto X (tgt := 21) d_L_node_10 (by decide) ?_
  refine b_iconst X (v := 0) d_L_node_21 (by decide) ?_
  refine Lb.widen (Nat.le_of_eq (Nat.zero_add _)) (Nat.le_of_eq (Nat.zero_add _)) ?_
  exact b_iret X (rm := (rmh 3 rm')) d_L_node_22 ⟨rfl, rfl⟩
theorem hz_L_node_1 (G : GG) (σ : St) (o : Nat) (f : Nat → Int64) (x1 : Int32) (x2 : Int32) {rm' : Room} {w' : va_W} (ct : CtT y_F_node c_F_node 3 (some .int) rm' G [.ref (xa σ 0), .int x1, .int x2] (WC G σ) "java/lang/IndexOutOfBoundsException" (fun w'' => w'' = w')) : CtH y_L_node c_L_node 5 (some .int) hs_L_node (rmh 3 rm') G [.ref (xa σ 0), .int x1, .int x2, .ref o] (ow G o f :: WC G σ) (eqp (some (.int 1)) (ow G o f :: w')) := by
  refine CtH.of (by decide +kernel) (Nat.le_of_ble_eq_true rfl) (fun K X hnf hex => ?_)
  show Lb K G _ _ 5 0 [(0, .ref (xa σ 0)), (1, .int x1), (2, .int x2), (3, .ref o)] [] _ 0 0
  refine b_aload_n X d_L_node_0 3 rfl rfl ?_
  refine b_iconst X (v := 0) d_L_node_1 (by decide) ?_
  refine b_aload_n X d_L_node_2 0 rfl rfl ?_
  refine b_iload_n X d_L_node_3 1 rfl rfl ?_
  refine b_iload_n X d_L_node_4 2 rfl rfl ?_
  refine b_callT1 X cf_F_node ci_F_node ml_L_39 ct 0 rfl rfl (As := [.int x1, .int x2]) (rest := [.int 0, .ref o]) rfl (Nat.le_of_ble_eq_true rfl) ⟨Nat.le_refl _, Nat.le_refl _⟩ ⟨Nat.le_of_eq (Nat.zero_add _), Nat.le_of_eq (Nat.zero_add _)⟩ rfl d_L_node_5 (fun w'' hp => ?_)
  subst hp
  refine b_catch X hnf hex [] (0, 10, 13, 19) [(0, 10, 17, 25)] rfl (fun y hy => by cases hy) ⟨by decide, by decide, by decide, ws_2 213 rfl rfl, List.mem_of_getElem? (i := 11) rfl⟩ (fun a => ?_)
  refine b_astore X d_L_node_13 (by decide) [] rfl ?_
  refine b_iconst X (v := 1) d_L_node_15 (by decide) ?_
  refine Lb.widen (Nat.le_of_eq (Nat.zero_add _)) (Nat.le_of_eq (Nat.zero_add _)) ?_
  exact b_iret X (rm := (rmh 3 rm')) d_L_node_16 ⟨rfl, rfl⟩
theorem hz_L_node_2 (G : GG) (σ : St) (o : Nat) (f : Nat → Int64) (x1 : Int32) (x2 : Int32) {rm' : Room} {w' : va_W} (ct : CtT y_F_node c_F_node 3 (some .int) rm' G [.ref (xa σ 0), .int x1, .int x2] (WC G σ) "java/lang/IllegalArgumentException" (fun w'' => w'' = w')) : CtH y_L_node c_L_node 5 (some .int) hs_L_node (rmh 3 rm') G [.ref (xa σ 0), .int x1, .int x2, .ref o] (ow G o f :: WC G σ) (eqp (some (.int 2)) (ow G o f :: w')) := by
  refine CtH.of (by decide +kernel) (Nat.le_of_ble_eq_true rfl) (fun K X hnf hex => ?_)
  show Lb K G _ _ 5 0 [(0, .ref (xa σ 0)), (1, .int x1), (2, .int x2), (3, .ref o)] [] _ 0 0
  refine b_aload_n X d_L_node_0 3 rfl rfl ?_
  refine b_iconst X (v := 0) d_L_node_1 (by decide) ?_
  refine b_aload_n X d_L_node_2 0 rfl rfl ?_
  refine b_iload_n X d_L_node_3 1 rfl rfl ?_
  refine b_iload_n X d_L_node_4 2 rfl rfl ?_
  refine b_callT1 X cf_F_node ci_F_node ml_L_39 ct 0 rfl rfl (As := [.int x1, .int x2]) (rest := [.int 0, .ref o]) rfl (Nat.le_of_ble_eq_true rfl) ⟨Nat.le_refl _, Nat.le_refl _⟩ ⟨Nat.le_of_eq (Nat.zero_add _), Nat.le_of_eq (Nat.zero_add _)⟩ rfl d_L_node_5 (fun w'' hp => ?_)
  subst hp
  refine b_catch X hnf hex [(0, 10, 13, 19)] (0, 10, 17, 25) [] rfl (by
    intro y hy
    simp only [List.mem_cons, List.not_mem_nil, or_false] at hy
    rcases hy with rfl
    · exact ⟨by decide, by decide, by decide, "java/lang/IndexOutOfBoundsException", ws_2 213 rfl rfl, by decide +kernel⟩) ⟨by decide, by decide, by decide, ws_3 12 rfl rfl, List.mem_of_getElem? (i := 12) rfl⟩ (fun a => ?_)
  refine b_astore X d_L_node_17 (by decide) [] rfl ?_
  refine b_iconst X (v := 2) d_L_node_19 (by decide) ?_
  refine Lb.widen (Nat.le_of_eq (Nat.zero_add _)) (Nat.le_of_eq (Nat.zero_add _)) ?_
  exact b_iret X (rm := (rmh 3 rm')) d_L_node_20 ⟨rfl, rfl⟩
abbrev hs_L_reach : EX := [(0, 8, 11, 27)]
set_option maxRecDepth 20000 in
theorem cfh_L_reach : CFH y_L_reach c_L_reach 3 (some .int) hs_L_reach 2 := ⟨ws_4 91 rfl rfl, ws_1 0 rfl rfl, ⟨by decide +kernel, by decide +kernel⟩, by decide +kernel, ws_4 90 rfl rfl⟩
theorem hn_L_reach (G : GG) (σ : St) (o : Nat) (f : Nat → Int64)  {rm' : Room} {w' : va_W} (r : Int32) (ct : Ct y_F_reach c_F_reach 1 (some .int) rm' G [.ref (xa σ 0)] (WC G σ) (eqp (some (.int r)) w')) : CtH y_L_reach c_L_reach 3 (some .int) hs_L_reach (rmh 1 rm') G [.ref (xa σ 0), .ref o] (ow G o f :: WC G σ) (eqp (some (.int 0)) (ow G o (vp_updL f 0 (Int32.toInt64 r)) :: w')) := by
  refine CtH.of (by decide +kernel) (Nat.le_of_ble_eq_true rfl) (fun K X hnf hex => ?_)
  show Lb K G _ _ 3 0 [(0, .ref (xa σ 0)), (1, .ref o)] [] _ 0 0
  refine b_aload_n X d_L_reach_0 1 rfl rfl ?_
  refine b_iconst X (v := 0) d_L_reach_1 (by decide) ?_
  refine b_aload_n X d_L_reach_2 0 rfl rfl ?_
  refine b_callV1 X cf_F_reach ci_F_reach ml_L_42 ct 0 rfl rfl (As := []) (rest := [.int 0, .ref o]) rfl (Nat.le_of_ble_eq_true rfl) ⟨Nat.le_refl _, Nat.le_refl _⟩ ⟨Nat.le_of_eq (Nat.zero_add _), Nat.le_of_eq (Nat.zero_add _)⟩ rfl d_L_reach_3 (fun v w'' hp => ?_)
  obtain ⟨rfl, rfl⟩ := hp
  refine Lb.eq (st' := .int r :: [.int 0, .ref o]) rfl rfl rfl ?_
  refine b_i2l X (v := (Int32.toInt64 r)) d_L_reach_6 rfl ?_
  refine b_last X 0 rfl (by decide) 0 rfl (by decide) rfl d_L_reach_7 ?_
  refine b_goto X (tgt := 14) d_L_reach_8 (by decide) ?_
  refine b_iconst X (v := 0) d_L_reach_14 (by decide) ?_
  refine Lb.widen (Nat.le_of_eq (Nat.zero_add _)) (Nat.le_of_eq (Nat.zero_add _)) ?_
  exact b_iret X (rm := (rmh 1 rm')) d_L_reach_15 ⟨rfl, rfl⟩
theorem hz_L_reach_1 (G : GG) (σ : St) (o : Nat) (f : Nat → Int64)  {rm' : Room} {w' : va_W} (ct : CtT y_F_reach c_F_reach 1 (some .int) rm' G [.ref (xa σ 0)] (WC G σ) "java/lang/IllegalStateException" (fun w'' => w'' = w')) : CtH y_L_reach c_L_reach 3 (some .int) hs_L_reach (rmh 1 rm') G [.ref (xa σ 0), .ref o] (ow G o f :: WC G σ) (eqp (some (.int 1)) (ow G o f :: w')) := by
  refine CtH.of (by decide +kernel) (Nat.le_of_ble_eq_true rfl) (fun K X hnf hex => ?_)
  show Lb K G _ _ 3 0 [(0, .ref (xa σ 0)), (1, .ref o)] [] _ 0 0
  refine b_aload_n X d_L_reach_0 1 rfl rfl ?_
  refine b_iconst X (v := 0) d_L_reach_1 (by decide) ?_
  refine b_aload_n X d_L_reach_2 0 rfl rfl ?_
  refine b_callT1 X cf_F_reach ci_F_reach ml_L_42 ct 0 rfl rfl (As := []) (rest := [.int 0, .ref o]) rfl (Nat.le_of_ble_eq_true rfl) ⟨Nat.le_refl _, Nat.le_refl _⟩ ⟨Nat.le_of_eq (Nat.zero_add _), Nat.le_of_eq (Nat.zero_add _)⟩ rfl d_L_reach_3 (fun w'' hp => ?_)
  subst hp
  refine b_catch X hnf hex [] (0, 8, 11, 27) [] rfl (fun y hy => by cases hy) ⟨by decide, by decide, by decide, ws_3 13 rfl rfl, List.mem_of_getElem? (i := 13) rfl⟩ (fun a => ?_)
  refine b_astore_n X d_L_reach_11 rfl (by decide) [] rfl ?_
  refine b_iconst X (v := 1) d_L_reach_12 (by decide) ?_
  refine Lb.widen (Nat.le_of_eq (Nat.zero_add _)) (Nat.le_of_eq (Nat.zero_add _)) ?_
  exact b_iret X (rm := (rmh 1 rm')) d_L_reach_13 ⟨rfl, rfl⟩
abbrev hs_L_expected : EX := [(0, 8, 11, 27), (0, 8, 14, 25)]
set_option maxRecDepth 20000 in
theorem cfh_L_expected : CFH y_L_expected c_L_expected 4 (some .int) hs_L_expected 3 := ⟨ws_4 102 rfl rfl, ws_1 0 rfl rfl, ⟨by decide +kernel, by decide +kernel⟩, by decide +kernel, ws_4 101 rfl rfl⟩
theorem hn_L_expected (G : GG) (σ : St) (o : Nat) (f : Nat → Int64) (x1 : Int32) {rm' : Room} {w' : va_W} (r : Int64) (ct : Ct y_F_expected c_F_expected 2 (some .long) rm' G [.ref (xa σ 0), .int x1] (WC G σ) (eqp (some (.long r)) w')) : CtH y_L_expected c_L_expected 4 (some .int) hs_L_expected (rmh 2 rm') G [.ref (xa σ 0), .int x1, .ref o] (ow G o f :: WC G σ) (eqp (some (.int 0)) (ow G o (vp_updL f 0 r) :: w')) := by
  refine CtH.of (by decide +kernel) (Nat.le_of_ble_eq_true rfl) (fun K X hnf hex => ?_)
  show Lb K G _ _ 4 0 [(0, .ref (xa σ 0)), (1, .int x1), (2, .ref o)] [] _ 0 0
  refine b_aload_n X d_L_expected_0 2 rfl rfl ?_
  refine b_iconst X (v := 0) d_L_expected_1 (by decide) ?_
  refine b_aload_n X d_L_expected_2 0 rfl rfl ?_
  refine b_iload_n X d_L_expected_3 1 rfl rfl ?_
  refine b_callV1 X cf_F_expected ci_F_expected ml_L_45 ct 0 rfl rfl (As := [.int x1]) (rest := [.int 0, .ref o]) rfl (Nat.le_of_ble_eq_true rfl) ⟨Nat.le_refl _, Nat.le_refl _⟩ ⟨Nat.le_of_eq (Nat.zero_add _), Nat.le_of_eq (Nat.zero_add _)⟩ rfl d_L_expected_4 (fun v w'' hp => ?_)
  obtain ⟨rfl, rfl⟩ := hp
  refine Lb.eq (st' := .long r :: [.int 0, .ref o]) rfl rfl rfl ?_
  refine b_last X 0 rfl (by decide) 0 rfl (by decide) rfl d_L_expected_7 ?_
  refine b_goto X (tgt := 17) d_L_expected_8 (by decide) ?_
  refine b_iconst X (v := 0) d_L_expected_17 (by decide) ?_
  refine Lb.widen (Nat.le_of_eq (Nat.zero_add _)) (Nat.le_of_eq (Nat.zero_add _)) ?_
  exact b_iret X (rm := (rmh 2 rm')) d_L_expected_18 ⟨rfl, rfl⟩
theorem hz_L_expected_1 (G : GG) (σ : St) (o : Nat) (f : Nat → Int64) (x1 : Int32) {rm' : Room} {w' : va_W} (ct : CtT y_F_expected c_F_expected 2 (some .long) rm' G [.ref (xa σ 0), .int x1] (WC G σ) "java/lang/IllegalStateException" (fun w'' => w'' = w')) : CtH y_L_expected c_L_expected 4 (some .int) hs_L_expected (rmh 2 rm') G [.ref (xa σ 0), .int x1, .ref o] (ow G o f :: WC G σ) (eqp (some (.int 1)) (ow G o f :: w')) := by
  refine CtH.of (by decide +kernel) (Nat.le_of_ble_eq_true rfl) (fun K X hnf hex => ?_)
  show Lb K G _ _ 4 0 [(0, .ref (xa σ 0)), (1, .int x1), (2, .ref o)] [] _ 0 0
  refine b_aload_n X d_L_expected_0 2 rfl rfl ?_
  refine b_iconst X (v := 0) d_L_expected_1 (by decide) ?_
  refine b_aload_n X d_L_expected_2 0 rfl rfl ?_
  refine b_iload_n X d_L_expected_3 1 rfl rfl ?_
  refine b_callT1 X cf_F_expected ci_F_expected ml_L_45 ct 0 rfl rfl (As := [.int x1]) (rest := [.int 0, .ref o]) rfl (Nat.le_of_ble_eq_true rfl) ⟨Nat.le_refl _, Nat.le_refl _⟩ ⟨Nat.le_of_eq (Nat.zero_add _), Nat.le_of_eq (Nat.zero_add _)⟩ rfl d_L_expected_4 (fun w'' hp => ?_)
  subst hp
  refine b_catch X hnf hex [] (0, 8, 11, 27) [(0, 8, 14, 25)] rfl (fun y hy => by cases hy) ⟨by decide, by decide, by decide, ws_3 13 rfl rfl, List.mem_of_getElem? (i := 13) rfl⟩ (fun a => ?_)
  refine b_astore_n X d_L_expected_11 rfl (by decide) [] rfl ?_
  refine b_iconst X (v := 1) d_L_expected_12 (by decide) ?_
  refine Lb.widen (Nat.le_of_eq (Nat.zero_add _)) (Nat.le_of_eq (Nat.zero_add _)) ?_
  exact b_iret X (rm := (rmh 2 rm')) d_L_expected_13 ⟨rfl, rfl⟩
theorem hz_L_expected_2 (G : GG) (σ : St) (o : Nat) (f : Nat → Int64) (x1 : Int32) {rm' : Room} {w' : va_W} (ct : CtT y_F_expected c_F_expected 2 (some .long) rm' G [.ref (xa σ 0), .int x1] (WC G σ) "java/lang/IllegalArgumentException" (fun w'' => w'' = w')) : CtH y_L_expected c_L_expected 4 (some .int) hs_L_expected (rmh 2 rm') G [.ref (xa σ 0), .int x1, .ref o] (ow G o f :: WC G σ) (eqp (some (.int 2)) (ow G o f :: w')) := by
  refine CtH.of (by decide +kernel) (Nat.le_of_ble_eq_true rfl) (fun K X hnf hex => ?_)
  show Lb K G _ _ 4 0 [(0, .ref (xa σ 0)), (1, .int x1), (2, .ref o)] [] _ 0 0
  refine b_aload_n X d_L_expected_0 2 rfl rfl ?_
  refine b_iconst X (v := 0) d_L_expected_1 (by decide) ?_
  refine b_aload_n X d_L_expected_2 0 rfl rfl ?_
  refine b_iload_n X d_L_expected_3 1 rfl rfl ?_
  refine b_callT1 X cf_F_expected ci_F_expected ml_L_45 ct 0 rfl rfl (As := [.int x1]) (rest := [.int 0, .ref o]) rfl (Nat.le_of_ble_eq_true rfl) ⟨Nat.le_refl _, Nat.le_refl _⟩ ⟨Nat.le_of_eq (Nat.zero_add _), Nat.le_of_eq (Nat.zero_add _)⟩ rfl d_L_expected_4 (fun w'' hp => ?_)
  subst hp
  refine b_catch X hnf hex [(0, 8, 11, 27)] (0, 8, 14, 25) [] rfl (by
    intro y hy
    simp only [List.mem_cons, List.not_mem_nil, or_false] at hy
    rcases hy with rfl
    · exact ⟨by decide, by decide, by decide, "java/lang/IllegalStateException", ws_3 13 rfl rfl, by decide +kernel⟩) ⟨by decide, by decide, by decide, ws_3 12 rfl rfl, List.mem_of_getElem? (i := 12) rfl⟩ (fun a => ?_)
  refine b_astore_n X d_L_expected_14 rfl (by decide) [] rfl ?_
  refine b_iconst X (v := 2) d_L_expected_15 (by decide) ?_
  refine Lb.widen (Nat.le_of_eq (Nat.zero_add _)) (Nat.le_of_eq (Nat.zero_add _)) ?_
  exact b_iret X (rm := (rmh 2 rm')) d_L_expected_16 ⟨rfl, rfl⟩
abbrev hs_L_isNothing : EX := [(0, 16, 19, 27), (0, 16, 22, 19)]
set_option maxRecDepth 20000 in
theorem cfh_L_isNothing : CFH y_L_isNothing c_L_isNothing 4 (some .int) hs_L_isNothing 3 := ⟨ws_4 115 rfl rfl, ws_1 0 rfl rfl, ⟨by decide +kernel, by decide +kernel⟩, by decide +kernel, ws_4 114 rfl rfl⟩
theorem hn_L_isNothingt (G : GG) (σ : St) (o : Nat) (f : Nat → Int64) (x1 : Int32) {rm' : Room} {w' : va_W} (r : Int32) (ct : Ct y_F_isNothing c_F_isNothing 2 (some .boolean) rm' G [.ref (xa σ 0), .int x1] (WC G σ) (eqp (some (.int r)) w')) (hr : r = 0) : CtH y_L_isNothing c_L_isNothing 4 (some .int) hs_L_isNothing (rmh 2 rm') G [.ref (xa σ 0), .int x1, .ref o] (ow G o f :: WC G σ) (eqp (some (.int 0)) (ow G o (vp_updL f 0 0) :: w')) := by
  refine CtH.of (by decide +kernel) (Nat.le_of_ble_eq_true rfl) (fun K X hnf hex => ?_)
  show Lb K G _ _ 4 0 [(0, .ref (xa σ 0)), (1, .int x1), (2, .ref o)] [] _ 0 0
  refine b_aload_n X d_L_isNothing_0 2 rfl rfl ?_
  refine b_iconst X (v := 0) d_L_isNothing_1 (by decide) ?_
  refine b_aload_n X d_L_isNothing_2 0 rfl rfl ?_
  refine b_iload_n X d_L_isNothing_3 1 rfl rfl ?_
  refine b_callV1 X cf_F_isNothing ci_F_isNothing ml_L_49 ct 0 rfl rfl (As := [.int x1]) (rest := [.int 0, .ref o]) rfl (Nat.le_of_ble_eq_true rfl) ⟨Nat.le_refl _, Nat.le_refl _⟩ ⟨Nat.le_of_eq (Nat.zero_add _), Nat.le_of_eq (Nat.zero_add _)⟩ rfl d_L_isNothing_4 (fun v w'' hp => ?_)
  obtain ⟨rfl, rfl⟩ := hp
  refine Lb.eq (st' := .int r :: [.int 0, .ref o]) rfl rfl rfl ?_
  refine b_if_eq X (tgt := 14) d_L_isNothing_7 (by decide) (fun _ => ?_) (fun h => absurd hr h)
  refine b_lconst X (v := 0) d_L_isNothing_14 rfl ?_
  refine b_last X 0 rfl (by decide) 0 rfl (by decide) rfl d_L_isNothing_15 ?_
  refine b_goto X (tgt := 25) d_L_isNothing_16 (by decide) ?_
  refine b_iconst X (v := 0) d_L_isNothing_25 (by decide) ?_
  refine Lb.widen (Nat.le_of_eq (Nat.zero_add _)) (Nat.le_of_eq (Nat.zero_add _)) ?_
  exact b_iret X (rm := (rmh 2 rm')) d_L_isNothing_26 ⟨rfl, rfl⟩
theorem hn_L_isNothingf (G : GG) (σ : St) (o : Nat) (f : Nat → Int64) (x1 : Int32) {rm' : Room} {w' : va_W} (r : Int32) (ct : Ct y_F_isNothing c_F_isNothing 2 (some .boolean) rm' G [.ref (xa σ 0), .int x1] (WC G σ) (eqp (some (.int r)) w')) (hr : ¬ r = 0) : CtH y_L_isNothing c_L_isNothing 4 (some .int) hs_L_isNothing (rmh 2 rm') G [.ref (xa σ 0), .int x1, .ref o] (ow G o f :: WC G σ) (eqp (some (.int 0)) (ow G o (vp_updL f 0 1) :: w')) := by
  refine CtH.of (by decide +kernel) (Nat.le_of_ble_eq_true rfl) (fun K X hnf hex => ?_)
  show Lb K G _ _ 4 0 [(0, .ref (xa σ 0)), (1, .int x1), (2, .ref o)] [] _ 0 0
  refine b_aload_n X d_L_isNothing_0 2 rfl rfl ?_
  refine b_iconst X (v := 0) d_L_isNothing_1 (by decide) ?_
  refine b_aload_n X d_L_isNothing_2 0 rfl rfl ?_
  refine b_iload_n X d_L_isNothing_3 1 rfl rfl ?_
  refine b_callV1 X cf_F_isNothing ci_F_isNothing ml_L_49 ct 0 rfl rfl (As := [.int x1]) (rest := [.int 0, .ref o]) rfl (Nat.le_of_ble_eq_true rfl) ⟨Nat.le_refl _, Nat.le_refl _⟩ ⟨Nat.le_of_eq (Nat.zero_add _), Nat.le_of_eq (Nat.zero_add _)⟩ rfl d_L_isNothing_4 (fun v w'' hp => ?_)
  obtain ⟨rfl, rfl⟩ := hp
  refine Lb.eq (st' := .int r :: [.int 0, .ref o]) rfl rfl rfl ?_
  refine b_if_eq X (tgt := 14) d_L_isNothing_7 (by decide) (fun h => absurd h hr) (fun _ => ?_)
  refine b_lconst X (v := 1) d_L_isNothing_10 rfl ?_
  refine b_goto X (tgt := 15) d_L_isNothing_11 (by decide) ?_
  refine b_last X 0 rfl (by decide) 0 rfl (by decide) rfl d_L_isNothing_15 ?_
  refine b_goto X (tgt := 25) d_L_isNothing_16 (by decide) ?_
  refine b_iconst X (v := 0) d_L_isNothing_25 (by decide) ?_
  refine Lb.widen (Nat.le_of_eq (Nat.zero_add _)) (Nat.le_of_eq (Nat.zero_add _)) ?_
  exact b_iret X (rm := (rmh 2 rm')) d_L_isNothing_26 ⟨rfl, rfl⟩
theorem hz_L_isNothing_1 (G : GG) (σ : St) (o : Nat) (f : Nat → Int64) (x1 : Int32) {rm' : Room} {w' : va_W} (ct : CtT y_F_isNothing c_F_isNothing 2 (some .boolean) rm' G [.ref (xa σ 0), .int x1] (WC G σ) "java/lang/IllegalStateException" (fun w'' => w'' = w')) : CtH y_L_isNothing c_L_isNothing 4 (some .int) hs_L_isNothing (rmh 2 rm') G [.ref (xa σ 0), .int x1, .ref o] (ow G o f :: WC G σ) (eqp (some (.int 1)) (ow G o f :: w')) := by
  refine CtH.of (by decide +kernel) (Nat.le_of_ble_eq_true rfl) (fun K X hnf hex => ?_)
  show Lb K G _ _ 4 0 [(0, .ref (xa σ 0)), (1, .int x1), (2, .ref o)] [] _ 0 0
  refine b_aload_n X d_L_isNothing_0 2 rfl rfl ?_
  refine b_iconst X (v := 0) d_L_isNothing_1 (by decide) ?_
  refine b_aload_n X d_L_isNothing_2 0 rfl rfl ?_
  refine b_iload_n X d_L_isNothing_3 1 rfl rfl ?_
  refine b_callT1 X cf_F_isNothing ci_F_isNothing ml_L_49 ct 0 rfl rfl (As := [.int x1]) (rest := [.int 0, .ref o]) rfl (Nat.le_of_ble_eq_true rfl) ⟨Nat.le_refl _, Nat.le_refl _⟩ ⟨Nat.le_of_eq (Nat.zero_add _), Nat.le_of_eq (Nat.zero_add _)⟩ rfl d_L_isNothing_4 (fun w'' hp => ?_)
  subst hp
  refine b_catch X hnf hex [] (0, 16, 19, 27) [(0, 16, 22, 19)] rfl (fun y hy => by cases hy) ⟨by decide, by decide, by decide, ws_3 13 rfl rfl, List.mem_of_getElem? (i := 13) rfl⟩ (fun a => ?_)
  refine b_astore_n X d_L_isNothing_19 rfl (by decide) [] rfl ?_
  refine b_iconst X (v := 1) d_L_isNothing_20 (by decide) ?_
  refine Lb.widen (Nat.le_of_eq (Nat.zero_add _)) (Nat.le_of_eq (Nat.zero_add _)) ?_
  exact b_iret X (rm := (rmh 2 rm')) d_L_isNothing_21 ⟨rfl, rfl⟩
theorem hz_L_isNothing_2 (G : GG) (σ : St) (o : Nat) (f : Nat → Int64) (x1 : Int32) {rm' : Room} {w' : va_W} (ct : CtT y_F_isNothing c_F_isNothing 2 (some .boolean) rm' G [.ref (xa σ 0), .int x1] (WC G σ) "java/lang/IndexOutOfBoundsException" (fun w'' => w'' = w')) : CtH y_L_isNothing c_L_isNothing 4 (some .int) hs_L_isNothing (rmh 2 rm') G [.ref (xa σ 0), .int x1, .ref o] (ow G o f :: WC G σ) (eqp (some (.int 2)) (ow G o f :: w')) := by
  refine CtH.of (by decide +kernel) (Nat.le_of_ble_eq_true rfl) (fun K X hnf hex => ?_)
  show Lb K G _ _ 4 0 [(0, .ref (xa σ 0)), (1, .int x1), (2, .ref o)] [] _ 0 0
  refine b_aload_n X d_L_isNothing_0 2 rfl rfl ?_
  refine b_iconst X (v := 0) d_L_isNothing_1 (by decide) ?_
  refine b_aload_n X d_L_isNothing_2 0 rfl rfl ?_
  refine b_iload_n X d_L_isNothing_3 1 rfl rfl ?_
  refine b_callT1 X cf_F_isNothing ci_F_isNothing ml_L_49 ct 0 rfl rfl (As := [.int x1]) (rest := [.int 0, .ref o]) rfl (Nat.le_of_ble_eq_true rfl) ⟨Nat.le_refl _, Nat.le_refl _⟩ ⟨Nat.le_of_eq (Nat.zero_add _), Nat.le_of_eq (Nat.zero_add _)⟩ rfl d_L_isNothing_4 (fun w'' hp => ?_)
  subst hp
  refine b_catch X hnf hex [(0, 16, 19, 27)] (0, 16, 22, 19) [] rfl (by
    intro y hy
    simp only [List.mem_cons, List.not_mem_nil, or_false] at hy
    rcases hy with rfl
    · exact ⟨by decide, by decide, by decide, "java/lang/IllegalStateException", ws_3 13 rfl rfl, by decide +kernel⟩) ⟨by decide, by decide, by decide, ws_2 213 rfl rfl, List.mem_of_getElem? (i := 11) rfl⟩ (fun a => ?_)
  refine b_astore_n X d_L_isNothing_22 rfl (by decide) [] rfl ?_
  refine b_iconst X (v := 2) d_L_isNothing_23 (by decide) ?_
  refine Lb.widen (Nat.le_of_eq (Nat.zero_add _)) (Nat.le_of_eq (Nat.zero_add _)) ?_
  exact b_iret X (rm := (rmh 2 rm')) d_L_isNothing_24 ⟨rfl, rfl⟩
abbrev hs_L_first : EX := [(0, 8, 11, 27), (0, 8, 14, 19)]
set_option maxRecDepth 20000 in
theorem cfh_L_first : CFH y_L_first c_L_first 4 (some .int) hs_L_first 3 := ⟨ws_4 126 rfl rfl, ws_1 0 rfl rfl, ⟨by decide +kernel, by decide +kernel⟩, by decide +kernel, ws_4 125 rfl rfl⟩
theorem hn_L_first (G : GG) (σ : St) (o : Nat) (f : Nat → Int64) (x1 : Int32) {rm' : Room} {w' : va_W} (r : Int64) (ct : Ct y_F_first c_F_first 2 (some .long) rm' G [.ref (xa σ 0), .int x1] (WC G σ) (eqp (some (.long r)) w')) : CtH y_L_first c_L_first 4 (some .int) hs_L_first (rmh 2 rm') G [.ref (xa σ 0), .int x1, .ref o] (ow G o f :: WC G σ) (eqp (some (.int 0)) (ow G o (vp_updL f 0 r) :: w')) := by
  refine CtH.of (by decide +kernel) (Nat.le_of_ble_eq_true rfl) (fun K X hnf hex => ?_)
  show Lb K G _ _ 4 0 [(0, .ref (xa σ 0)), (1, .int x1), (2, .ref o)] [] _ 0 0
  refine b_aload_n X d_L_first_0 2 rfl rfl ?_
  refine b_iconst X (v := 0) d_L_first_1 (by decide) ?_
  refine b_aload_n X d_L_first_2 0 rfl rfl ?_
  refine b_iload_n X d_L_first_3 1 rfl rfl ?_
  refine b_callV1 X cf_F_first ci_F_first ml_L_53 ct 0 rfl rfl (As := [.int x1]) (rest := [.int 0, .ref o]) rfl (Nat.le_of_ble_eq_true rfl) ⟨Nat.le_refl _, Nat.le_refl _⟩ ⟨Nat.le_of_eq (Nat.zero_add _), Nat.le_of_eq (Nat.zero_add _)⟩ rfl d_L_first_4 (fun v w'' hp => ?_)
  obtain ⟨rfl, rfl⟩ := hp
  refine Lb.eq (st' := .long r :: [.int 0, .ref o]) rfl rfl rfl ?_
  refine b_last X 0 rfl (by decide) 0 rfl (by decide) rfl d_L_first_7 ?_
  refine b_goto X (tgt := 17) d_L_first_8 (by decide) ?_
  refine b_iconst X (v := 0) d_L_first_17 (by decide) ?_
  refine Lb.widen (Nat.le_of_eq (Nat.zero_add _)) (Nat.le_of_eq (Nat.zero_add _)) ?_
  exact b_iret X (rm := (rmh 2 rm')) d_L_first_18 ⟨rfl, rfl⟩
theorem hz_L_first_1 (G : GG) (σ : St) (o : Nat) (f : Nat → Int64) (x1 : Int32) {rm' : Room} {w' : va_W} (ct : CtT y_F_first c_F_first 2 (some .long) rm' G [.ref (xa σ 0), .int x1] (WC G σ) "java/lang/IllegalStateException" (fun w'' => w'' = w')) : CtH y_L_first c_L_first 4 (some .int) hs_L_first (rmh 2 rm') G [.ref (xa σ 0), .int x1, .ref o] (ow G o f :: WC G σ) (eqp (some (.int 1)) (ow G o f :: w')) := by
  refine CtH.of (by decide +kernel) (Nat.le_of_ble_eq_true rfl) (fun K X hnf hex => ?_)
  show Lb K G _ _ 4 0 [(0, .ref (xa σ 0)), (1, .int x1), (2, .ref o)] [] _ 0 0
  refine b_aload_n X d_L_first_0 2 rfl rfl ?_
  refine b_iconst X (v := 0) d_L_first_1 (by decide) ?_
  refine b_aload_n X d_L_first_2 0 rfl rfl ?_
  refine b_iload_n X d_L_first_3 1 rfl rfl ?_
  refine b_callT1 X cf_F_first ci_F_first ml_L_53 ct 0 rfl rfl (As := [.int x1]) (rest := [.int 0, .ref o]) rfl (Nat.le_of_ble_eq_true rfl) ⟨Nat.le_refl _, Nat.le_refl _⟩ ⟨Nat.le_of_eq (Nat.zero_add _), Nat.le_of_eq (Nat.zero_add _)⟩ rfl d_L_first_4 (fun w'' hp => ?_)
  subst hp
  refine b_catch X hnf hex [] (0, 8, 11, 27) [(0, 8, 14, 19)] rfl (fun y hy => by cases hy) ⟨by decide, by decide, by decide, ws_3 13 rfl rfl, List.mem_of_getElem? (i := 13) rfl⟩ (fun a => ?_)
  refine b_astore_n X d_L_first_11 rfl (by decide) [] rfl ?_
  refine b_iconst X (v := 1) d_L_first_12 (by decide) ?_
  refine Lb.widen (Nat.le_of_eq (Nat.zero_add _)) (Nat.le_of_eq (Nat.zero_add _)) ?_
  exact b_iret X (rm := (rmh 2 rm')) d_L_first_13 ⟨rfl, rfl⟩
theorem hz_L_first_2 (G : GG) (σ : St) (o : Nat) (f : Nat → Int64) (x1 : Int32) {rm' : Room} {w' : va_W} (ct : CtT y_F_first c_F_first 2 (some .long) rm' G [.ref (xa σ 0), .int x1] (WC G σ) "java/lang/IndexOutOfBoundsException" (fun w'' => w'' = w')) : CtH y_L_first c_L_first 4 (some .int) hs_L_first (rmh 2 rm') G [.ref (xa σ 0), .int x1, .ref o] (ow G o f :: WC G σ) (eqp (some (.int 2)) (ow G o f :: w')) := by
  refine CtH.of (by decide +kernel) (Nat.le_of_ble_eq_true rfl) (fun K X hnf hex => ?_)
  show Lb K G _ _ 4 0 [(0, .ref (xa σ 0)), (1, .int x1), (2, .ref o)] [] _ 0 0
  refine b_aload_n X d_L_first_0 2 rfl rfl ?_
  refine b_iconst X (v := 0) d_L_first_1 (by decide) ?_
  refine b_aload_n X d_L_first_2 0 rfl rfl ?_
  refine b_iload_n X d_L_first_3 1 rfl rfl ?_
  refine b_callT1 X cf_F_first ci_F_first ml_L_53 ct 0 rfl rfl (As := [.int x1]) (rest := [.int 0, .ref o]) rfl (Nat.le_of_ble_eq_true rfl) ⟨Nat.le_refl _, Nat.le_refl _⟩ ⟨Nat.le_of_eq (Nat.zero_add _), Nat.le_of_eq (Nat.zero_add _)⟩ rfl d_L_first_4 (fun w'' hp => ?_)
  subst hp
  refine b_catch X hnf hex [(0, 8, 11, 27)] (0, 8, 14, 19) [] rfl (by
    intro y hy
    simp only [List.mem_cons, List.not_mem_nil, or_false] at hy
    rcases hy with rfl
    · exact ⟨by decide, by decide, by decide, "java/lang/IllegalStateException", ws_3 13 rfl rfl, by decide +kernel⟩) ⟨by decide, by decide, by decide, ws_2 213 rfl rfl, List.mem_of_getElem? (i := 11) rfl⟩ (fun a => ?_)
  refine b_astore_n X d_L_first_14 rfl (by decide) [] rfl ?_
  refine b_iconst X (v := 2) d_L_first_15 (by decide) ?_
  refine Lb.widen (Nat.le_of_eq (Nat.zero_add _)) (Nat.le_of_eq (Nat.zero_add _)) ?_
  exact b_iret X (rm := (rmh 2 rm')) d_L_first_16 ⟨rfl, rfl⟩
abbrev hs_L_following : EX := [(0, 8, 11, 27), (0, 8, 14, 19)]
set_option maxRecDepth 20000 in
theorem cfh_L_following : CFH y_L_following c_L_following 4 (some .int) hs_L_following 3 := ⟨ws_4 137 rfl rfl, ws_1 0 rfl rfl, ⟨by decide +kernel, by decide +kernel⟩, by decide +kernel, ws_4 136 rfl rfl⟩
theorem hn_L_following (G : GG) (σ : St) (o : Nat) (f : Nat → Int64) (x1 : Int32) {rm' : Room} {w' : va_W} (r : Int64) (ct : Ct y_F_following c_F_following 2 (some .long) rm' G [.ref (xa σ 0), .int x1] (WC G σ) (eqp (some (.long r)) w')) : CtH y_L_following c_L_following 4 (some .int) hs_L_following (rmh 2 rm') G [.ref (xa σ 0), .int x1, .ref o] (ow G o f :: WC G σ) (eqp (some (.int 0)) (ow G o (vp_updL f 0 r) :: w')) := by
  refine CtH.of (by decide +kernel) (Nat.le_of_ble_eq_true rfl) (fun K X hnf hex => ?_)
  show Lb K G _ _ 4 0 [(0, .ref (xa σ 0)), (1, .int x1), (2, .ref o)] [] _ 0 0
  refine b_aload_n X d_L_following_0 2 rfl rfl ?_
  refine b_iconst X (v := 0) d_L_following_1 (by decide) ?_
  refine b_aload_n X d_L_following_2 0 rfl rfl ?_
  refine b_iload_n X d_L_following_3 1 rfl rfl ?_
  refine b_callV1 X cf_F_following ci_F_following ml_L_56 ct 0 rfl rfl (As := [.int x1]) (rest := [.int 0, .ref o]) rfl (Nat.le_of_ble_eq_true rfl) ⟨Nat.le_refl _, Nat.le_refl _⟩ ⟨Nat.le_of_eq (Nat.zero_add _), Nat.le_of_eq (Nat.zero_add _)⟩ rfl d_L_following_4 (fun v w'' hp => ?_)
  obtain ⟨rfl, rfl⟩ := hp
  refine Lb.eq (st' := .long r :: [.int 0, .ref o]) rfl rfl rfl ?_
  refine b_last X 0 rfl (by decide) 0 rfl (by decide) rfl d_L_following_7 ?_
  refine b_goto X (tgt := 17) d_L_following_8 (by decide) ?_
  refine b_iconst X (v := 0) d_L_following_17 (by decide) ?_
  refine Lb.widen (Nat.le_of_eq (Nat.zero_add _)) (Nat.le_of_eq (Nat.zero_add _)) ?_
  exact b_iret X (rm := (rmh 2 rm')) d_L_following_18 ⟨rfl, rfl⟩
theorem hz_L_following_1 (G : GG) (σ : St) (o : Nat) (f : Nat → Int64) (x1 : Int32) {rm' : Room} {w' : va_W} (ct : CtT y_F_following c_F_following 2 (some .long) rm' G [.ref (xa σ 0), .int x1] (WC G σ) "java/lang/IllegalStateException" (fun w'' => w'' = w')) : CtH y_L_following c_L_following 4 (some .int) hs_L_following (rmh 2 rm') G [.ref (xa σ 0), .int x1, .ref o] (ow G o f :: WC G σ) (eqp (some (.int 1)) (ow G o f :: w')) := by
  refine CtH.of (by decide +kernel) (Nat.le_of_ble_eq_true rfl) (fun K X hnf hex => ?_)
  show Lb K G _ _ 4 0 [(0, .ref (xa σ 0)), (1, .int x1), (2, .ref o)] [] _ 0 0
  refine b_aload_n X d_L_following_0 2 rfl rfl ?_
  refine b_iconst X (v := 0) d_L_following_1 (by decide) ?_
  refine b_aload_n X d_L_following_2 0 rfl rfl ?_
  refine b_iload_n X d_L_following_3 1 rfl rfl ?_
  refine b_callT1 X cf_F_following ci_F_following ml_L_56 ct 0 rfl rfl (As := [.int x1]) (rest := [.int 0, .ref o]) rfl (Nat.le_of_ble_eq_true rfl) ⟨Nat.le_refl _, Nat.le_refl _⟩ ⟨Nat.le_of_eq (Nat.zero_add _), Nat.le_of_eq (Nat.zero_add _)⟩ rfl d_L_following_4 (fun w'' hp => ?_)
  subst hp
  refine b_catch X hnf hex [] (0, 8, 11, 27) [(0, 8, 14, 19)] rfl (fun y hy => by cases hy) ⟨by decide, by decide, by decide, ws_3 13 rfl rfl, List.mem_of_getElem? (i := 13) rfl⟩ (fun a => ?_)
  refine b_astore_n X d_L_following_11 rfl (by decide) [] rfl ?_
  refine b_iconst X (v := 1) d_L_following_12 (by decide) ?_
  refine Lb.widen (Nat.le_of_eq (Nat.zero_add _)) (Nat.le_of_eq (Nat.zero_add _)) ?_
  exact b_iret X (rm := (rmh 2 rm')) d_L_following_13 ⟨rfl, rfl⟩
theorem hz_L_following_2 (G : GG) (σ : St) (o : Nat) (f : Nat → Int64) (x1 : Int32) {rm' : Room} {w' : va_W} (ct : CtT y_F_following c_F_following 2 (some .long) rm' G [.ref (xa σ 0), .int x1] (WC G σ) "java/lang/IndexOutOfBoundsException" (fun w'' => w'' = w')) : CtH y_L_following c_L_following 4 (some .int) hs_L_following (rmh 2 rm') G [.ref (xa σ 0), .int x1, .ref o] (ow G o f :: WC G σ) (eqp (some (.int 2)) (ow G o f :: w')) := by
  refine CtH.of (by decide +kernel) (Nat.le_of_ble_eq_true rfl) (fun K X hnf hex => ?_)
  show Lb K G _ _ 4 0 [(0, .ref (xa σ 0)), (1, .int x1), (2, .ref o)] [] _ 0 0
  refine b_aload_n X d_L_following_0 2 rfl rfl ?_
  refine b_iconst X (v := 0) d_L_following_1 (by decide) ?_
  refine b_aload_n X d_L_following_2 0 rfl rfl ?_
  refine b_iload_n X d_L_following_3 1 rfl rfl ?_
  refine b_callT1 X cf_F_following ci_F_following ml_L_56 ct 0 rfl rfl (As := [.int x1]) (rest := [.int 0, .ref o]) rfl (Nat.le_of_ble_eq_true rfl) ⟨Nat.le_refl _, Nat.le_refl _⟩ ⟨Nat.le_of_eq (Nat.zero_add _), Nat.le_of_eq (Nat.zero_add _)⟩ rfl d_L_following_4 (fun w'' hp => ?_)
  subst hp
  refine b_catch X hnf hex [(0, 8, 11, 27)] (0, 8, 14, 19) [] rfl (by
    intro y hy
    simp only [List.mem_cons, List.not_mem_nil, or_false] at hy
    rcases hy with rfl
    · exact ⟨by decide, by decide, by decide, "java/lang/IllegalStateException", ws_3 13 rfl rfl, by decide +kernel⟩) ⟨by decide, by decide, by decide, ws_2 213 rfl rfl, List.mem_of_getElem? (i := 11) rfl⟩ (fun a => ?_)
  refine b_astore_n X d_L_following_14 rfl (by decide) [] rfl ?_
  refine b_iconst X (v := 2) d_L_following_15 (by decide) ?_
  refine Lb.widen (Nat.le_of_eq (Nat.zero_add _)) (Nat.le_of_eq (Nat.zero_add _)) ?_
  exact b_iret X (rm := (rmh 2 rm')) d_L_following_16 ⟨rfl, rfl⟩
abbrev hs_L_lets : EX := [(0, 10, 13, 27), (0, 10, 17, 19), (0, 10, 21, 25)]
set_option maxRecDepth 20000 in
theorem cfh_L_lets : CFH y_L_lets c_L_lets 5 (some .int) hs_L_lets 4 := ⟨ws_4 148 rfl rfl, ws_1 0 rfl rfl, ⟨by decide +kernel, by decide +kernel⟩, by decide +kernel, ws_4 147 rfl rfl⟩
theorem hn_L_lets (G : GG) (σ : St) (o : Nat) (f : Nat → Int64) (x1 : Int32) (x2 : Int32) {rm' : Room} {w' : va_W} (r : Int32) (ct : Ct y_F_lets c_F_lets 3 (some .int) rm' G [.ref (xa σ 0), .int x1, .int x2] (WC G σ) (eqp (some (.int r)) w')) : CtH y_L_lets c_L_lets 5 (some .int) hs_L_lets (rmh 3 rm') G [.ref (xa σ 0), .int x1, .int x2, .ref o] (ow G o f :: WC G σ) (eqp (some (.int 0)) (ow G o (vp_updL f 0 (Int32.toInt64 r)) :: w')) := by
  refine CtH.of (by decide +kernel) (Nat.le_of_ble_eq_true rfl) (fun K X hnf hex => ?_)
  show Lb K G _ _ 5 0 [(0, .ref (xa σ 0)), (1, .int x1), (2, .int x2), (3, .ref o)] [] _ 0 0
  refine b_aload_n X d_L_lets_0 3 rfl rfl ?_
  refine b_iconst X (v := 0) d_L_lets_1 (by decide) ?_
  refine b_aload_n X d_L_lets_2 0 rfl rfl ?_
  refine b_iload_n X d_L_lets_3 1 rfl rfl ?_
  refine b_iload_n X d_L_lets_4 2 rfl rfl ?_
  refine b_callV1 X cf_F_lets ci_F_lets ml_L_59 ct 0 rfl rfl (As := [.int x1, .int x2]) (rest := [.int 0, .ref o]) rfl (Nat.le_of_ble_eq_true rfl) ⟨Nat.le_refl _, Nat.le_refl _⟩ ⟨Nat.le_of_eq (Nat.zero_add _), Nat.le_of_eq (Nat.zero_add _)⟩ rfl d_L_lets_5 (fun v w'' hp => ?_)
  obtain ⟨rfl, rfl⟩ := hp
  refine Lb.eq (st' := .int r :: [.int 0, .ref o]) rfl rfl rfl ?_
  refine b_i2l X (v := (Int32.toInt64 r)) d_L_lets_8 rfl ?_
  refine b_last X 0 rfl (by decide) 0 rfl (by decide) rfl d_L_lets_9 ?_
  refine b_goto X (tgt := 25) d_L_lets_10 (by decide) ?_
  refine b_iconst X (v := 0) d_L_lets_25 (by decide) ?_
  refine Lb.widen (Nat.le_of_eq (Nat.zero_add _)) (Nat.le_of_eq (Nat.zero_add _)) ?_
  exact b_iret X (rm := (rmh 3 rm')) d_L_lets_26 ⟨rfl, rfl⟩
theorem hz_L_lets_1 (G : GG) (σ : St) (o : Nat) (f : Nat → Int64) (x1 : Int32) (x2 : Int32) {rm' : Room} {w' : va_W} (ct : CtT y_F_lets c_F_lets 3 (some .int) rm' G [.ref (xa σ 0), .int x1, .int x2] (WC G σ) "java/lang/IllegalStateException" (fun w'' => w'' = w')) : CtH y_L_lets c_L_lets 5 (some .int) hs_L_lets (rmh 3 rm') G [.ref (xa σ 0), .int x1, .int x2, .ref o] (ow G o f :: WC G σ) (eqp (some (.int 1)) (ow G o f :: w')) := by
  refine CtH.of (by decide +kernel) (Nat.le_of_ble_eq_true rfl) (fun K X hnf hex => ?_)
  show Lb K G _ _ 5 0 [(0, .ref (xa σ 0)), (1, .int x1), (2, .int x2), (3, .ref o)] [] _ 0 0
  refine b_aload_n X d_L_lets_0 3 rfl rfl ?_
  refine b_iconst X (v := 0) d_L_lets_1 (by decide) ?_
  refine b_aload_n X d_L_lets_2 0 rfl rfl ?_
  refine b_iload_n X d_L_lets_3 1 rfl rfl ?_
  refine b_iload_n X d_L_lets_4 2 rfl rfl ?_
  refine b_callT1 X cf_F_lets ci_F_lets ml_L_59 ct 0 rfl rfl (As := [.int x1, .int x2]) (rest := [.int 0, .ref o]) rfl (Nat.le_of_ble_eq_true rfl) ⟨Nat.le_refl _, Nat.le_refl _⟩ ⟨Nat.le_of_eq (Nat.zero_add _), Nat.le_of_eq (Nat.zero_add _)⟩ rfl d_L_lets_5 (fun w'' hp => ?_)
  subst hp
  refine b_catch X hnf hex [] (0, 10, 13, 27) [(0, 10, 17, 19), (0, 10, 21, 25)] rfl (fun y hy => by cases hy) ⟨by decide, by decide, by decide, ws_3 13 rfl rfl, List.mem_of_getElem? (i := 13) rfl⟩ (fun a => ?_)
  refine b_astore X d_L_lets_13 (by decide) [] rfl ?_
  refine b_iconst X (v := 1) d_L_lets_15 (by decide) ?_
  refine Lb.widen (Nat.le_of_eq (Nat.zero_add _)) (Nat.le_of_eq (Nat.zero_add _)) ?_
  exact b_iret X (rm := (rmh 3 rm')) d_L_lets_16 ⟨rfl, rfl⟩
theorem hz_L_lets_2 (G : GG) (σ : St) (o : Nat) (f : Nat → Int64) (x1 : Int32) (x2 : Int32) {rm' : Room} {w' : va_W} (ct : CtT y_F_lets c_F_lets 3 (some .int) rm' G [.ref (xa σ 0), .int x1, .int x2] (WC G σ) "java/lang/IndexOutOfBoundsException" (fun w'' => w'' = w')) : CtH y_L_lets c_L_lets 5 (some .int) hs_L_lets (rmh 3 rm') G [.ref (xa σ 0), .int x1, .int x2, .ref o] (ow G o f :: WC G σ) (eqp (some (.int 2)) (ow G o f :: w')) := by
  refine CtH.of (by decide +kernel) (Nat.le_of_ble_eq_true rfl) (fun K X hnf hex => ?_)
  show Lb K G _ _ 5 0 [(0, .ref (xa σ 0)), (1, .int x1), (2, .int x2), (3, .ref o)] [] _ 0 0
  refine b_aload_n X d_L_lets_0 3 rfl rfl ?_
  refine b_iconst X (v := 0) d_L_lets_1 (by decide) ?_
  refine b_aload_n X d_L_lets_2 0 rfl rfl ?_
  refine b_iload_n X d_L_lets_3 1 rfl rfl ?_
  refine b_iload_n X d_L_lets_4 2 rfl rfl ?_
  refine b_callT1 X cf_F_lets ci_F_lets ml_L_59 ct 0 rfl rfl (As := [.int x1, .int x2]) (rest := [.int 0, .ref o]) rfl (Nat.le_of_ble_eq_true rfl) ⟨Nat.le_refl _, Nat.le_refl _⟩ ⟨Nat.le_of_eq (Nat.zero_add _), Nat.le_of_eq (Nat.zero_add _)⟩ rfl d_L_lets_5 (fun w'' hp => ?_)
  subst hp
  refine b_catch X hnf hex [(0, 10, 13, 27)] (0, 10, 17, 19) [(0, 10, 21, 25)] rfl (by
    intro y hy
    simp only [List.mem_cons, List.not_mem_nil, or_false] at hy
    rcases hy with rfl
    · exact ⟨by decide, by decide, by decide, "java/lang/IllegalStateException", ws_3 13 rfl rfl, by decide +kernel⟩) ⟨by decide, by decide, by decide, ws_2 213 rfl rfl, List.mem_of_getElem? (i := 11) rfl⟩ (fun a => ?_)
  refine b_astore X d_L_lets_17 (by decide) [] rfl ?_
  refine b_iconst X (v := 2) d_L_lets_19 (by decide) ?_
  refine Lb.widen (Nat.le_of_eq (Nat.zero_add _)) (Nat.le_of_eq (Nat.zero_add _)) ?_
  exact b_iret X (rm := (rmh 3 rm')) d_L_lets_20 ⟨rfl, rfl⟩
theorem hz_L_lets_3 (G : GG) (σ : St) (o : Nat) (f : Nat → Int64) (x1 : Int32) (x2 : Int32) {rm' : Room} {w' : va_W} (ct : CtT y_F_lets c_F_lets 3 (some .int) rm' G [.ref (xa σ 0), .int x1, .int x2] (WC G σ) "java/lang/IllegalArgumentException" (fun w'' => w'' = w')) : CtH y_L_lets c_L_lets 5 (some .int) hs_L_lets (rmh 3 rm') G [.ref (xa σ 0), .int x1, .int x2, .ref o] (ow G o f :: WC G σ) (eqp (some (.int 3)) (ow G o f :: w')) := by
  refine CtH.of (by decide +kernel) (Nat.le_of_ble_eq_true rfl) (fun K X hnf hex => ?_)
  show Lb K G _ _ 5 0 [(0, .ref (xa σ 0)), (1, .int x1), (2, .int x2), (3, .ref o)] [] _ 0 0
  refine b_aload_n X d_L_lets_0 3 rfl rfl ?_
  refine b_iconst X (v := 0) d_L_lets_1 (by decide) ?_
  refine b_aload_n X d_L_lets_2 0 rfl rfl ?_
  refine b_iload_n X d_L_lets_3 1 rfl rfl ?_
  refine b_iload_n X d_L_lets_4 2 rfl rfl ?_
  refine b_callT1 X cf_F_lets ci_F_lets ml_L_59 ct 0 rfl rfl (As := [.int x1, .int x2]) (rest := [.int 0, .ref o]) rfl (Nat.le_of_ble_eq_true rfl) ⟨Nat.le_refl _, Nat.le_refl _⟩ ⟨Nat.le_of_eq (Nat.zero_add _), Nat.le_of_eq (Nat.zero_add _)⟩ rfl d_L_lets_5 (fun w'' hp => ?_)
  subst hp
  refine b_catch X hnf hex [(0, 10, 13, 27), (0, 10, 17, 19)] (0, 10, 21, 25) [] rfl (by
    intro y hy
    simp only [List.mem_cons, List.not_mem_nil, or_false] at hy
    rcases hy with rfl | rfl
    · exact ⟨by decide, by decide, by decide, "java/lang/IllegalStateException", ws_3 13 rfl rfl, by decide +kernel⟩
    · exact ⟨by decide, by decide, by decide, "java/lang/IndexOutOfBoundsException", ws_2 213 rfl rfl, by decide +kernel⟩) ⟨by decide, by decide, by decide, ws_3 12 rfl rfl, List.mem_of_getElem? (i := 12) rfl⟩ (fun a => ?_)
  refine b_astore X d_L_lets_21 (by decide) [] rfl ?_
  refine b_iconst X (v := 3) d_L_lets_23 (by decide) ?_
  refine Lb.widen (Nat.le_of_eq (Nat.zero_add _)) (Nat.le_of_eq (Nat.zero_add _)) ?_
  exact b_iret X (rm := (rmh 3 rm')) d_L_lets_24 ⟨rfl, rfl⟩
abbrev hs_L_count : EX := [(0, 9, 12, 25)]
set_option maxRecDepth 20000 in
theorem cfh_L_count : CFH y_L_count c_L_count 4 (some .int) hs_L_count 3 := ⟨ws_4 159 rfl rfl, ws_1 0 rfl rfl, ⟨by decide +kernel, by decide +kernel⟩, by decide +kernel, ws_4 158 rfl rfl⟩
theorem hn_L_count (G : GG) (σ : St) (o : Nat) (f : Nat → Int64) (x1 : Int32) {rm' : Room} {w' : va_W} (r : Int32) (ct : Ct y_F_count c_F_count 2 (some .int) rm' G [.ref (xa σ 0), .int x1] (WC G σ) (eqp (some (.int r)) w')) : CtH y_L_count c_L_count 4 (some .int) hs_L_count (rmh 2 rm') G [.ref (xa σ 0), .int x1, .ref o] (ow G o f :: WC G σ) (eqp (some (.int 0)) (ow G o (vp_updL f 0 (Int32.toInt64 r)) :: w')) := by
  refine CtH.of (by decide +kernel) (Nat.le_of_ble_eq_true rfl) (fun K X hnf hex => ?_)
  show Lb K G _ _ 4 0 [(0, .ref (xa σ 0)), (1, .int x1), (2, .ref o)] [] _ 0 0
  refine b_aload_n X d_L_count_0 2 rfl rfl ?_
  refine b_iconst X (v := 0) d_L_count_1 (by decide) ?_
  refine b_aload_n X d_L_count_2 0 rfl rfl ?_
  refine b_iload_n X d_L_count_3 1 rfl rfl ?_
  refine b_callV1 X cf_F_count ci_F_count ml_L_62 ct 0 rfl rfl (As := [.int x1]) (rest := [.int 0, .ref o]) rfl (Nat.le_of_ble_eq_true rfl) ⟨Nat.le_refl _, Nat.le_refl _⟩ ⟨Nat.le_of_eq (Nat.zero_add _), Nat.le_of_eq (Nat.zero_add _)⟩ rfl d_L_count_4 (fun v w'' hp => ?_)
  obtain ⟨rfl, rfl⟩ := hp
  refine Lb.eq (st' := .int r :: [.int 0, .ref o]) rfl rfl rfl ?_
  refine b_i2l X (v := (Int32.toInt64 r)) d_L_count_7 rfl ?_
  refine b_last X 0 rfl (by decide) 0 rfl (by decide) rfl d_L_count_8 ?_
  refine b_goto X (tgt := 15) d_L_count_9 (by decide) ?_
  refine b_iconst X (v := 0) d_L_count_15 (by decide) ?_
  refine Lb.widen (Nat.le_of_eq (Nat.zero_add _)) (Nat.le_of_eq (Nat.zero_add _)) ?_
  exact b_iret X (rm := (rmh 2 rm')) d_L_count_16 ⟨rfl, rfl⟩
theorem hz_L_count_1 (G : GG) (σ : St) (o : Nat) (f : Nat → Int64) (x1 : Int32) {rm' : Room} {w' : va_W} (ct : CtT y_F_count c_F_count 2 (some .int) rm' G [.ref (xa σ 0), .int x1] (WC G σ) "java/lang/IllegalArgumentException" (fun w'' => w'' = w')) : CtH y_L_count c_L_count 4 (some .int) hs_L_count (rmh 2 rm') G [.ref (xa σ 0), .int x1, .ref o] (ow G o f :: WC G σ) (eqp (some (.int 1)) (ow G o f :: w')) := by
  refine CtH.of (by decide +kernel) (Nat.le_of_ble_eq_true rfl) (fun K X hnf hex => ?_)
  show Lb K G _ _ 4 0 [(0, .ref (xa σ 0)), (1, .int x1), (2, .ref o)] [] _ 0 0
  refine b_aload_n X d_L_count_0 2 rfl rfl ?_
  refine b_iconst X (v := 0) d_L_count_1 (by decide) ?_
  refine b_aload_n X d_L_count_2 0 rfl rfl ?_
  refine b_iload_n X d_L_count_3 1 rfl rfl ?_
  refine b_callT1 X cf_F_count ci_F_count ml_L_62 ct 0 rfl rfl (As := [.int x1]) (rest := [.int 0, .ref o]) rfl (Nat.le_of_ble_eq_true rfl) ⟨Nat.le_refl _, Nat.le_refl _⟩ ⟨Nat.le_of_eq (Nat.zero_add _), Nat.le_of_eq (Nat.zero_add _)⟩ rfl d_L_count_4 (fun w'' hp => ?_)
  subst hp
  refine b_catch X hnf hex [] (0, 9, 12, 25) [] rfl (fun y hy => by cases hy) ⟨by decide, by decide, by decide, ws_3 12 rfl rfl, List.mem_of_getElem? (i := 12) rfl⟩ (fun a => ?_)
  refine b_astore_n X d_L_count_12 rfl (by decide) [] rfl ?_
  refine b_iconst X (v := 1) d_L_count_13 (by decide) ?_
  refine Lb.widen (Nat.le_of_eq (Nat.zero_add _)) (Nat.le_of_eq (Nat.zero_add _)) ?_
  exact b_iret X (rm := (rmh 2 rm')) d_L_count_14 ⟨rfl, rfl⟩
