/-! rows: calls with a known answer; constants; Math; long compares -/
abbrev Sq : Type := (Nat → Nat → Int32) × (Nat → Nat → Int64) × (Nat → Nat → Int32) × Nat
def ushrL (x : Int64) (y : Int32) : Int64 := (x.toUInt64 >>> (y.toInt64.toUInt64 &&& Int64.toUInt64 63)).toInt64
def shlL (x : Int64) (y : Int32) : Int64 := x <<< (y.toInt64 &&& 63)
def shrL (x : Int64) (y : Int32) : Int64 := x >>> (y.toInt64 &&& 63)
def imax (x y : Int32) : Int32 := if x < y then y else x
def imin (x y : Int32) : Int32 := if y < x then y else x
def lmin (x y : Int64) : Int64 := if y < x then y else x
def b2i (b : Bool) : Int32 := if b then 1 else 0
theorem nar_b2i (b : Bool) : narrow .boolean (.int (b2i b)) = .int (b2i b) := by cases b <;> rfl
theorem vnar_b2i (b : Bool) : vp_nar .boolean (b2i b) = b2i b := by cases b <;> decide
theorem b2i_0 {b : Bool} : b2i b = 0 ↔ b = false := by cases b <;> decide
theorem b2i_n0 {b : Bool} : ¬ b2i b = 0 ↔ b = true := by cases b <;> decide
theorem eqp_rfl {v : Option Value} {w : va_W} : eqp v w v w := ⟨rfl, rfl⟩
set_option maxRecDepth 20000 in
theorem kS_max : Cond.static Lib.Math.max.name ∈ WS := ws_t 622 (by decide +kernel) rfl
set_option maxRecDepth 20000 in
theorem kS_min : Cond.static Lib.Math.min.name ∈ WS := ws_t 716 (by decide +kernel) rfl
set_option maxRecDepth 20000 in
theorem kS_minL : Cond.static Lib.MathLoose.min_long.x ∈ WS := ws_t 790 (by decide +kernel) rfl
set_option maxRecDepth 20000 in
theorem kI_Math : Cond.initialized "java/lang/Math" ∈ WS := ws_t 18 (by decide +kernel) rfl
set_option maxRecDepth 20000 in
theorem kC_max : Cond.code Lib.Math.max.name Lib.Math.max.code 2 (some .int) ∈ WS := ws_t 623 (by decide +kernel) rfl
set_option maxRecDepth 20000 in
theorem kC_min : Cond.code Lib.Math.min.name Lib.Math.min.code 2 (some .int) ∈ WS := ws_t 717 (by decide +kernel) rfl
set_option maxRecDepth 20000 in
theorem kC_minL : Cond.code Lib.MathLoose.min_long.x Lib.MathLoose.min_long.code 4 (some .long) ∈ WS := ws_t 791 (by decide +kernel) rfl
set_option maxRecDepth 20000 in
theorem kl_Y_9 : Cond.constant "FirstTrees$Ways" 9 (59536) ∈ WS := ws_t 148 (by decide +kernel) rfl
set_option maxRecDepth 20000 in
theorem kl_S_120 : Cond.constantLong "FirstTrees$Study" 120 (4294967296) ∈ WS := ws_t 342 (by decide +kernel) rfl
set_option maxRecDepth 20000 in
theorem kl_S_126 : Cond.constantLong "FirstTrees$Study" 126 (-1) ∈ WS := ws_t 347 (by decide +kernel) rfl
set_option maxRecDepth 20000 in
theorem kl_Y_80 : Cond.constantLong "FirstTrees$Ways" 80 (1000000000) ∈ WS := ws_t 788 (by decide +kernel) rfl
set_option maxRecDepth 20000 in
theorem kl_F_190 : Cond.constantLong "FirstTrees" 190 (4294967296) ∈ WS := ws_t 832 (by decide +kernel) rfl
set_option maxRecDepth 20000 in
theorem kl_M_42 : Cond.constant "FirstTreesModel" 42 (59536) ∈ WS := ws_t 891 (by decide +kernel) rfl
set_option maxRecDepth 20000 in
theorem kl_M_122 : Cond.constantLong "FirstTreesModel" 122 (1000000000) ∈ WS := ws_t 1040 (by decide +kernel) rfl
set_option maxRecDepth 20000 in
theorem kl_M_179 : Cond.constantLong "FirstTreesModel" 179 (4294967296) ∈ WS := ws_t 1121 (by decide +kernel) rfl
section R06
variable {K : KX} {G : GG} {w0 w : va_W} {Q : State → Prop} {own : String} {cc : ByteArray} {nL pc cells slots : Nat} {rt : Option FieldType} {rm : Room} {lv : List (Nat × Value)} {st : List Value}
variable {y : MethodName} {bytes : ByteArray} {maxL n index b : Nat} {ret : Option FieldType} {rm' : Room} {As rest st0 st1 : List Value} {host : String} {v : Option Value} {w' : va_W}
theorem b_dV (X : Bd K G w0 own cc nL rt rm) (C : CF y bytes maxL ret n) (hi : Cond.instanceMethod y ∈ WS ∧ Cond.selects y.cls y y ∈ WS) (ml : Cond.methodLink own index y ∈ WS) (ct : Ct y bytes maxL ret rm' G (.ref b :: As) w (eqp v w')) (q0 : Nat) {ci : Nat} {fs : List Value} {T : u_T} {N : Nat} (he : w[q0]? = some (b, .inr (ci, fs))) (hc : classes[ci]? = some (y.cls, T, N)) (hn : As.length = n) (hst : (rest.map fun v => v.category).sum ≤ 8) (hR : rm'.frames + 1 ≤ rm.frames ∧ 8 + (maxL + 11) + rm'.locals ≤ rm.locals) (hf : cells + rm'.cells ≤ rm.cells ∧ slots + rm'.slots ≤ rm.slots) (hs0 : st0 = As.reverse ++ .ref b :: rest) (hs1 : v.toList ++ rest = st1) (d : decode cc pc = .ok (.invokevirtual index, 3))
    (k : Lb K G w0 Q nL (pc + 3) lv st1 w' (cells + rm'.cells) (slots + rm'.slots)) : Lb K G w0 Q nL pc lv st0 w cells slots :=
  b_callV X C hi ml ct q0 he hc hn hst hR hf hs0 d (fun v2 w2 h => by obtain ⟨rfl, rfl⟩ := h; rw [hs1]; exact k)
theorem b_dVN (X : Bd K G w0 own cc nL rt rm) (C : CF y bytes maxL ret n) (hi : Cond.instanceMethod y ∈ WS ∧ Cond.selects y.cls y y ∈ WS) (ml : Cond.methodLinkNest own index y host ∈ NW) (ct : Ct y bytes maxL ret rm' G (.ref b :: As) w (eqp v w')) (q0 : Nat) {ci : Nat} {fs : List Value} {T : u_T} {N : Nat} (he : w[q0]? = some (b, .inr (ci, fs))) (hc : classes[ci]? = some (y.cls, T, N)) (hn : As.length = n) (hst : (rest.map fun v => v.category).sum ≤ 8) (hR : rm'.frames + 1 ≤ rm.frames ∧ 8 + (maxL + 11) + rm'.locals ≤ rm.locals) (hf : cells + rm'.cells ≤ rm.cells ∧ slots + rm'.slots ≤ rm.slots) (hs0 : st0 = As.reverse ++ .ref b :: rest) (hs1 : v.toList ++ rest = st1) (d : decode cc pc = .ok (.invokevirtual index, 3))
    (k : Lb K G w0 Q nL (pc + 3) lv st1 w' (cells + rm'.cells) (slots + rm'.slots)) : Lb K G w0 Q nL pc lv st0 w cells slots :=
  b_callVN X C hi ml ct q0 he hc hn hst hR hf hs0 d (fun v2 w2 h => by obtain ⟨rfl, rfl⟩ := h; rw [hs1]; exact k)
theorem b_dS (X : Bd K G w0 own cc nL rt rm) (C : CF y bytes maxL ret n) (hi : Cond.static y ∈ WS) (ml : Cond.methodLink own index y ∈ WS) (ct : Ct y bytes maxL ret rm' G As w (eqp v w')) (hn : As.length = n) (hst : (rest.map fun v => v.category).sum ≤ 8) (hR : rm'.frames + 1 ≤ rm.frames ∧ 8 + (maxL + 11) + rm'.locals ≤ rm.locals) (hf : cells + rm'.cells ≤ rm.cells ∧ slots + rm'.slots ≤ rm.slots) (hs0 : st0 = As.reverse ++ rest) (hs1 : v.toList ++ rest = st1) (d : decode cc pc = .ok (.invokestatic index, 3))
    (k : Lb K G w0 Q nL (pc + 3) lv st1 w' (cells + rm'.cells) (slots + rm'.slots)) : Lb K G w0 Q nL pc lv st0 w cells slots :=
  b_callS X C hi ml ct hn hst hR hf hs0 d (fun v2 w2 h => by obtain ⟨rfl, rfl⟩ := h; rw [hs1]; exact k)
theorem b_dSN (X : Bd K G w0 own cc nL rt rm) (C : CF y bytes maxL ret n) (hi : Cond.static y ∈ WS) (ml : Cond.methodLinkNest own index y host ∈ NW) (ct : Ct y bytes maxL ret rm' G As w (eqp v w')) (hn : As.length = n) (hst : (rest.map fun v => v.category).sum ≤ 8) (hR : rm'.frames + 1 ≤ rm.frames ∧ 8 + (maxL + 11) + rm'.locals ≤ rm.locals) (hf : cells + rm'.cells ≤ rm.cells ∧ slots + rm'.slots ≤ rm.slots) (hs0 : st0 = As.reverse ++ rest) (hs1 : v.toList ++ rest = st1) (d : decode cc pc = .ok (.invokestatic index, 3))
    (k : Lb K G w0 Q nL (pc + 3) lv st1 w' (cells + rm'.cells) (slots + rm'.slots)) : Lb K G w0 Q nL pc lv st0 w cells slots :=
  b_callSN X C hi ml ct hn hst hR hf hs0 d (fun v2 w2 h => by obtain ⟨rfl, rfl⟩ := h; rw [hs1]; exact k)
theorem b_ldc2 (X : Bd K G w0 own cc nL rt rm) {v : Int64} (hc : Cond.constantLong own index v ∈ WS) (d : decode cc pc = .ok (.ldc2_w index, 3)) (k : Lb K G w0 Q nL (pc + 3) lv (.long v :: st) w cells slots) : Lb K G w0 Q nL pc lv st w cells slots :=
  fun ls H locs hl hP hD hS => lv_ldc2 X.x X.b X.ow (X.ts _ hc) d (k ls H locs hl hP hD hS)
theorem b_ldc (X : Bd K G w0 own cc nL rt rm) {v : Int32} (hc : Cond.constant own index v ∈ WS) (d : decode cc pc = .ok (.ldc index, 2)) (k : Lb K G w0 Q nL (pc + 2) lv (.int v :: st) w cells slots) : Lb K G w0 Q nL pc lv st w cells slots :=
  fun ls H locs hl hP hD hS => lv_ldc X.x X.b X.ow (X.ts _ hc) d (k ls H locs hl hP hD hS)
theorem b_mmax (X : Bd K G w0 own cc nL rt rm) {x y : Int32} (ml : Cond.methodLink own index ⟨"java/lang/Math", "max", "(II)I"⟩ ∈ WS) (hR : 1 ≤ rm.frames ∧ (st.map fun v => v.category).sum + 13 ≤ rm.locals ∧ cells ≤ rm.cells ∧ slots ≤ rm.slots) (d : decode cc pc = .ok (.invokestatic index, 3)) (k : Lb K G w0 Q nL (pc + 3) lv (.int (imax x y) :: st) w cells slots) : Lb K G w0 Q nL pc lv (.int y :: .int x :: st) w cells slots :=
  fun ls H locs hl hP hD hS => va_mmax X.x X.b (by rw [X.ml]; exact hl.1.symm) X.ow (X.ts _ ml) (X.ts _ kS_max) (X.ts _ kI_Math) (X.ts _ kC_max) (by rw [X.ro]; exact hR.1) (by rw [X.ro]; exact hR.2.1) (by rw [X.ro]; exact hR.2.2.1) (by rw [X.ro]; exact hR.2.2.2) d (k ls H locs hl hP hD hS)
theorem b_mmin (X : Bd K G w0 own cc nL rt rm) {x y : Int32} (ml : Cond.methodLink own index ⟨"java/lang/Math", "min", "(II)I"⟩ ∈ WS) (hR : 1 ≤ rm.frames ∧ (st.map fun v => v.category).sum + 13 ≤ rm.locals ∧ cells ≤ rm.cells ∧ slots ≤ rm.slots) (d : decode cc pc = .ok (.invokestatic index, 3)) (k : Lb K G w0 Q nL (pc + 3) lv (.int (imin x y) :: st) w cells slots) : Lb K G w0 Q nL pc lv (.int y :: .int x :: st) w cells slots :=
  fun ls H locs hl hP hD hS => va_mmin X.x X.b (by rw [X.ml]; exact hl.1.symm) X.ow (X.ts _ ml) (X.ts _ kS_min) (X.ts _ kI_Math) (X.ts _ kC_min) (by rw [X.ro]; exact hR.1) (by rw [X.ro]; exact hR.2.1) (by rw [X.ro]; exact hR.2.2.1) (by rw [X.ro]; exact hR.2.2.2) d (k ls H locs hl hP hD hS)
theorem b_mminL (X : Bd K G w0 own cc nL rt rm) {x y : Int64} (ml : Cond.methodLink own index ⟨"java/lang/Math", "min", "(JJ)J"⟩ ∈ WS) (hR : 1 ≤ rm.frames ∧ (st.map fun v => v.category).sum + 15 ≤ rm.locals ∧ cells ≤ rm.cells ∧ slots ≤ rm.slots) (d : decode cc pc = .ok (.invokestatic index, 3)) (k : Lb K G w0 Q nL (pc + 3) lv (.long (lmin x y) :: st) w cells slots) : Lb K G w0 Q nL pc lv (.long y :: .long x :: st) w cells slots :=
  fun ls H locs hl hP hD hS => va_mmin_long X.x X.b (by rw [X.ml]; exact hl.1.symm) X.ow (X.ts _ ml) (X.ts _ kS_minL) (X.ts _ kI_Math) (X.ts _ kC_minL) (by rw [X.ro]; exact hR.1) (by rw [X.ro]; exact hR.2.1) (by rw [X.ro]; exact hR.2.2.1) (by rw [X.ro]; exact hR.2.2.2) d (k ls H locs hl hP hD hS)
theorem bl_cmp_le {x y : Int64} : lg_cmp x y ≤ 0 ↔ ¬ y < x := by
  unfold lg_cmp
  by_cases h1 : y < x
  · simp only [h1, if_true]
    exact ⟨fun h => absurd h (by decide), fun h => absurd trivial h⟩
  · by_cases h2 : x = y
    · simp [h1, h2]
    · simp only [h1, h2, if_false]
      exact ⟨fun _ h => h, fun _ => by decide⟩
theorem b_l_le (X : Bd K G w0 own cc nL rt rm) {x y : Int64} {off : Int} {tgt : Nat} (d1 : decode cc pc = .ok (.lcmp, 1)) (d2 : decode cc (pc + 1) = .ok (.ifCond .le off, 3)) (ht : ((pc + 1 : Nat) : Int) + off = (tgt : Int)) (kt : ¬ y < x → Lb K G w0 Q nL tgt lv st w cells slots) (kf : y < x → Lb K G w0 Q nL (pc + 1 + 3) lv st w cells slots) : Lb K G w0 Q nL pc lv (.long y :: .long x :: st) w cells slots :=
  b_lcmp X d1 (b_if_le X d2 ht (fun h => kt (bl_cmp_le.mp h)) (fun h => kf (Classical.byContradiction (fun z => h (bl_cmp_le.mpr z)))))
end R06
