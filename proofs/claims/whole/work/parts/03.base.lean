/-! global facts: what every contract takes at its start besides its own cells -/
theorem ch_1 {w : Cond} (h : w ∈ tables_1_1) : w ∈ tables_1 := by
  show w ∈ tables_1_1 ++ (tables_1_2 ++ (tables_1_3 ++ (tables_1_4 ++ tables_1_5)))
  exact List.mem_append_left _ h
theorem ws_1 {w : Cond} (i : Nat) (e : tables_1_1[i]? = some w) (g : goodWord w = true) : w ∈ WS := List.mem_filter.mpr ⟨List.mem_append_right _ (ch_1 (List.mem_of_getElem? e)), g⟩
theorem ch_2 {w : Cond} (h : w ∈ tables_1_2) : w ∈ tables_1 := by
  show w ∈ tables_1_1 ++ (tables_1_2 ++ (tables_1_3 ++ (tables_1_4 ++ tables_1_5)))
  exact List.mem_append_right _ (List.mem_append_left _ h)
theorem ws_2 {w : Cond} (i : Nat) (e : tables_1_2[i]? = some w) (g : goodWord w = true) : w ∈ WS := List.mem_filter.mpr ⟨List.mem_append_right _ (ch_2 (List.mem_of_getElem? e)), g⟩
theorem ch_3 {w : Cond} (h : w ∈ tables_1_3) : w ∈ tables_1 := by
  show w ∈ tables_1_1 ++ (tables_1_2 ++ (tables_1_3 ++ (tables_1_4 ++ tables_1_5)))
  exact List.mem_append_right _ (List.mem_append_right _ (List.mem_append_left _ h))
theorem ws_3 {w : Cond} (i : Nat) (e : tables_1_3[i]? = some w) (g : goodWord w = true) : w ∈ WS := List.mem_filter.mpr ⟨List.mem_append_right _ (ch_3 (List.mem_of_getElem? e)), g⟩
theorem ch_4 {w : Cond} (h : w ∈ tables_1_4) : w ∈ tables_1 := by
  show w ∈ tables_1_1 ++ (tables_1_2 ++ (tables_1_3 ++ (tables_1_4 ++ tables_1_5)))
  exact List.mem_append_right _ (List.mem_append_right _ (List.mem_append_right _ (List.mem_append_left _ h)))
theorem ws_4 {w : Cond} (i : Nat) (e : tables_1_4[i]? = some w) (g : goodWord w = true) : w ∈ WS := List.mem_filter.mpr ⟨List.mem_append_right _ (ch_4 (List.mem_of_getElem? e)), g⟩
theorem ch_5 {w : Cond} (h : w ∈ tables_1_5) : w ∈ tables_1 := by
  show w ∈ tables_1_1 ++ (tables_1_2 ++ (tables_1_3 ++ (tables_1_4 ++ tables_1_5)))
  exact List.mem_append_right _ (List.mem_append_right _ (List.mem_append_right _ (List.mem_append_right _ (h))))
theorem ws_5 {w : Cond} (i : Nat) (e : tables_1_5[i]? = some w) (g : goodWord w = true) : w ∈ WS := List.mem_filter.mpr ⟨List.mem_append_right _ (ch_5 (List.mem_of_getElem? e)), g⟩
abbrev GG : Type := va_G × (Nat → ClassId)
def tyL (G : GG) : List (ClassId × FieldType) := [(G.2 0, .int), (G.2 1, .long), (G.2 2, .boolean), (G.2 3, .object "FirstTrees$Pending")]
def SR : List (String × Nat × String) := [("FirstTrees", 75, "there are 16 rules"), ("FirstTrees", 208, "no such rule"), ("FirstTrees", 94, "there are 8 alternatives"), ("FirstTrees", 101, "no such symbol"), ("FirstTrees", 106, "the rule has no alternative"), ("FirstTrees", 115, "there are 8 symbols"), ("FirstTrees", 133, "no such token"), ("FirstTrees", 138, "there are 60 tokens"), ("FirstTrees", 143, "the input has not so many tokens"), ("FirstTrees", 210, "the grammar is not right"), ("FirstTrees", 165, "the first tree has more than 2000 nodes"), ("FirstTrees", 173, "no such node"), ("FirstTrees", 176, "nothing of a node is told by that number"), ("FirstTrees", 184, "no such place"), ("FirstTrees", 206, "nothing is counted by that number")]
/-- table facts: classes and array classes; words that are no good words; the String constants -/
def gf (G : GG) (U : State) : Prop := va_K G.1 classes (tyL G) U ∧ (∀ w ∈ NW, va_Nw w U) ∧ (∀ q ∈ SR, ∃ a, vk_R q.1 q.2.1 q.2.2 a U) ∧ va_AO "FirstTrees$Pending" U
/-- Throwable's two statics hold references -/
def sf (U : State) : Prop := (Cond.isRef (.static "java/lang/Throwable" "UNASSIGNED_STACK" "[Ljava/lang/StackTraceElement;")).before #[] U = true ∧ (Cond.isRef (.static "java/lang/Throwable" "SUPPRESSED_SENTINEL" "Ljava/util/List;")).before #[] U = true ∧ (Cond.laysStatic "java/lang/Throwable" "UNASSIGNED_STACK" "[Ljava/lang/StackTraceElement;").before #[] U = true ∧ (Cond.laysStatic "java/lang/Throwable" "SUPPRESSED_SENTINEL" "Ljava/util/List;").before #[] U = true
/-- the launch is one without stack traces -/
def LOK (l : Launch) : Prop := ∀ e : Env, l.admits e → e.platform.stackTraces = false
def FL (own : String) (index ci : Nat) (C : String) (T : u_T) (N k : Nat) : Prop := (∀ w ∈ u_ws C T N, w ∈ WS) ∧ classes[ci]? = some (C, T, N) ∧ k < N ∧ Cond.fieldLink own index (T k).1 (T k).2.1 (T k).2.2.1 ∈ WS
def PL (ci : Nat) (C : String) (T : u_T) (N k : Nat) (ty : FieldType) : Prop := ∃ ty0 : Nat → FieldType, (∀ k, k < N → parseFieldDescriptor (T k).2.2.1 = some (ty0 k)) ∧ (∀ a, a < N → ∀ b, b < N → a ≠ b → (T a).2.1 ≠ (T b).2.1) ∧ (T k).2.2.2 = false ∧ parseFieldDescriptor (T k).2.2.1 = some ty
def CF (y : MethodName) (bytes : ByteArray) (maxL : Nat) (ret : Option FieldType) (n : Nat) : Prop := Cond.code y bytes maxL ret ∈ WS ∧ Cond.initialized y.cls ∈ WS ∧ (y.cls ≠ "java/lang/invoke/MethodHandle" ∧ y.cls ≠ "java/lang/invoke/VarHandle") ∧ (parseMethodDescriptor y.desc).map (fun d => d.parameters.length) = some n
theorem NW_warm {s U : State} (hW : s.WarmedH U.vm) (h : ∀ w ∈ NW, va_Nw w s) : ∀ w ∈ NW, va_Nw w U := by
  intro w hw
  have h1 := h w hw
  simp only [NW, List.mem_cons, List.not_mem_nil, or_false] at hw
  rcases hw with rfl | rfl | rfl | rfl | rfl | rfl | rfl | rfl | rfl | rfl | rfl | rfl | rfl | rfl | rfl | rfl | rfl | rfl | rfl | rfl <;> first | exact va_Nw.warmM hW h1 | exact va_Nw.warmF hW h1 | exact va_Nw.warmC hW h1 | exact va_Nw.warmD hW h1
theorem NW_same {s U : State} (e : U.vm = s.vm) (h : ∀ w ∈ NW, va_Nw w s) : ∀ w ∈ NW, va_Nw w U := by
  intro w hw
  have h1 := h w hw
  simp only [NW, List.mem_cons, List.not_mem_nil, or_false] at hw
  rcases hw with rfl | rfl | rfl | rfl | rfl | rfl | rfl | rfl | rfl | rfl | rfl | rfl | rfl | rfl | rfl | rfl | rfl | rfl | rfl | rfl <;> exact va_Nw.same rfl e.symm h1
theorem gf.warm {G : GG} {s U : State} (hW : s.WarmedH U.vm) (h : gf G s) : gf G U :=
  ⟨va_K.moved hW.alike h.1, NW_warm hW h.2.1, fun q hq => (h.2.2.1 q hq).elim (fun a ha => ⟨a, ha.warm hW⟩), va_AO.moved hW.alike h.2.2.2⟩
theorem gf.same {G : GG} {s U : State} (e : U.vm = s.vm) (h : gf G s) : gf G U :=
  ⟨va_K.moved (by rw [e]; exact Vm.Alike.refl _) h.1, NW_same e h.2.1, fun q hq => (h.2.2.1 q hq).elim (fun a ha => ⟨a, ha.same e⟩), va_AO.moved (by rw [e]; exact Vm.Alike.refl _) h.2.2.2⟩
theorem st_keep {s U : State} {C n d : String} (hW : s.WarmedH U.vm) (hh : ∀ (a : Nat) (cell : Cell), s.heap[a]? = some cell → cell.vm.isStatics = true → U.heap[a]? = some cell) (h : (Cond.isRef (.static C n d)).before #[] s = true) : (Cond.isRef (.static C n d)).before #[] U = true := by
  have h0 : (Cond.isRef (.static C n d)).before #[] (s.setVm U.vm) = true := by
    have e := Term.eval_setVm (args := #[]) (o := none) hW.alike (.static C n d) [] rfl
    simp only [Cond.before, Cond.holds, Cond.value] at h ⊢
    rw [e]
    exact h
  have key : ∀ v, (Term.static C n d).eval #[] (s.setVm U.vm) none [] (s.setVm U.vm) = some v → (Term.static C n d).eval #[] U none [] U = some v := by
    intro v hv
    simp only [Term.eval] at hv ⊢
    have ef : U.fieldNamed? C n d true = (s.setVm U.vm).fieldNamed? C n d true := rfl
    rw [ef]
    cases hf : (s.setVm U.vm).fieldNamed? C n d true with
    | none => rw [hf] at hv; simp at hv
    | some x =>
      obtain ⟨c, k, sl⟩ := x
      rw [hf] at hv
      cases hk : k.statics with
      | none => simp [hk] at hv
      | some a =>
        cases hc : s.heap[a]? with
        | none => simp [hk, hc] at hv
        | some cell =>
          by_cases hs : cell.vm.isStatics = true
          · simp [hk, hc, hs] at hv
            simp [hk, hh a cell hc hs, hs, hv]
          · simp [hk, hc, hs] at hv
  simp only [Cond.before, Cond.holds, Cond.value] at h0 ⊢
  cases hv : (Term.static C n d).eval #[] (s.setVm U.vm) none [] (s.setVm U.vm) with
  | none => rw [hv] at h0; simp at h0
  | some v => rw [hv] at h0; rw [key v hv]; exact h0
theorem ls_keep {s U : State} {C n d : String} (hW : s.WarmedH U.vm) (hh : ∀ (a : Nat) (cell : Cell), s.heap[a]? = some cell → cell.vm.isStatics = true → U.heap[a]? = some cell) (h : (Cond.laysStatic C n d).before #[] s = true) : (Cond.laysStatic C n d).before #[] U = true := by
  obtain ⟨c, k, i, f, a, cell, hc, hi, hst, ha, hcell, hs, hcls, hlt, hty⟩ := Cond.laysStatic_spec (Cond.laysStatic_setVm (vm' := U.vm) hW.alike h)
  exact Cond.laysStatic_of (s := U) hc hi hst ha (hh a cell hcell hs) hs hcls hlt hty
theorem sf_keep {s U : State} (hW : s.WarmedH U.vm) (hh : ∀ (a : Nat) (cell : Cell), s.heap[a]? = some cell → cell.vm.isStatics = true → U.heap[a]? = some cell) (h : sf s) : sf U := ⟨st_keep hW hh h.1, st_keep hW hh h.2.1, ls_keep hW hh h.2.2.1, ls_keep hW hh h.2.2.2⟩
theorem vp_none (cA : ClassId) (x : vp_A) : (vp_cell cA x).vm.isStatics = true → False := by
  intro h
  obtain ⟨n, f⟩ := x
  rcases f with f | f | f | f | f <;> cases h
theorem code_noex {p : Program} {l : Launch} {y : MethodName} {S : Spec} {cc : ByteArray} {nL : Nat} {rt : Option FieldType} {e : Env} {s : State} {m : MethodId} {args : Array Value} {below : List Frame} {meth : Method} {c : Code} {s₁ : State}
    (B : BodyLoose p l y S cc nL rt e s m args below meth c s₁) (h : (Cond.code y cc nL rt).before args s = true) : c.exceptionTable.toList = [] := by
  obtain ⟨meth', c', h1, h2, -, -, -, -, h3, -⟩ := Cond.code_spec B.named h
  cases h1.symm.trans B.method
  have h4 : meth.code = some c := by
    have h := B.here.code
    rw [State.code?_eq, B.method₁] at h
    exact h
  cases h2.symm.trans h4
  rw [Array.isEmpty_iff.mp h3]
/-! base: a walk at a label. K: the invocation (program, launch, env, room, state, method, arguments, frames below, method's record, code); G: component numbers, slots, array classes -/
abbrev KX : Type := Program × Launch × Env × Room × State × MethodId × Array Value × List Frame × Method × Code
abbrev kp (K : KX) : Program := K.1
abbrev kl (K : KX) : Launch := K.2.1
abbrev ke (K : KX) : Env := K.2.2.1
abbrev kr (K : KX) : Room := K.2.2.2.1
abbrev ks (K : KX) : State := K.2.2.2.2.1
abbrev km (K : KX) : MethodId := K.2.2.2.2.2.1
abbrev ka (K : KX) : Array Value := K.2.2.2.2.2.2.1
abbrev kb (K : KX) : List Frame := K.2.2.2.2.2.2.2.1
abbrev kt (K : KX) : Method := K.2.2.2.2.2.2.2.2.1
abbrev kc (K : KX) : Code := K.2.2.2.2.2.2.2.2.2
abbrev PostT : Type := Option Value → va_W → Prop
def eqp (v : Option Value) (w : va_W) : PostT := fun v' w' => v' = v ∧ w' = w
def Qm (G : GG) (w : va_W) (sz : Nat) (post : PostT) : Array Value → State → Outcome → State → Prop := fun _ st oc t =>
  (∃ (v : Option Value) (w' : va_W), oc = .returned v ∧ post v w' ∧ va_P G.1 classes w' t.heap ∧ va_D (va_A w sz) w') ∧ va_F (va_A w sz) st t
def Pm (G : GG) (w : va_W) (sz : Nat) (U : State) : Prop := U.heap.size = sz ∧ va_P G.1 classes w U.heap ∧ va_D (fun _ => True) w ∧ gf G U ∧ sf U
/-- a method's contract: from the world w with the arguments av it returns, with 'post' of the answer and the new world -/
def Ct (y : MethodName) (bytes : ByteArray) (maxL : Nat) (ret : Option FieldType) (rm : Room) (G : GG) (av : List Value) (w : va_W) (post : PostT) : Prop :=
  ∀ (l : Launch), LOK l → ∀ (sz : Nat), Met l y (.code y bytes maxL ret :: WS) rm (va_Pc av (Pm G w sz)) (Qm G w sz post) rm.cells rm.slots (va_A w sz)
def Bd (K : KX) (G : GG) (w0 : va_W) (own : String) (cc : ByteArray) (nL : Nat) (rt : Option FieldType) (rm : Room) : Prop :=
  (kp K).tables.exec = Jvm.exec ∧ (kc K).code = cc ∧ (kc K).maxLocals = nL ∧ (ks K).vm.findClass own = some (km K).cls ∧ (∀ w ∈ WS, w.before (ka K) (ks K) = true) ∧ gf G (ks K) ∧ (kt K).sig.returnType = rt ∧ (kt K).locks = false ∧ kr K = rm ∧ sf (ks K) ∧ (∀ (a : Nat) (cell : Cell), (ks K).heap[a]? = some cell → cell.vm.isStatics = true → ¬ va_A w0 (ks K).heap.size a) ∧ LOK (kl K)
def Lb (K : KX) (G : GG) (w0 : va_W) (Q : State → Prop) (nL pc : Nat) (lv : List (Nat × Value)) (st : List Value) (w : va_W) (cells slots : Nat) : Prop :=
  ∀ (ls : Array Slot) (H : Heap) (locs : List Loc), lv_has ls nL lv → va_P G.1 classes w H → va_D (va_A w0 (ks K).heap.size) w → va_S (va_A w0 (ks K).heap.size) (ks K).heap H locs →
    W (kp K) (kl K) (ke K) (kr K) (ks K) (km K) (ka K) (kb K) (kt K) (kc K) H locs cells slots Q (F0 (km K) pc ls st)
/-- the end that a contract asks for -/
def Qe (K : KX) (G : GG) (w0 : va_W) (post : PostT) (rm : Room) : State → Prop := MQ (kb K) (Qm G w0 (ks K).heap.size post) (ka K) (ks K) rm.cells rm.slots (va_A w0 (ks K).heap.size)
section BASE
variable {K : KX} {G : GG} {w0 w : va_W} {Q : State → Prop} {own : String} {cc : ByteArray} {nL pc cells slots : Nat} {rt : Option FieldType} {rm : Room} {lv : List (Nat × Value)} {st : List Value}
theorem Bd.x (X : Bd K G w0 own cc nL rt rm) : (kp K).tables.exec = Jvm.exec := X.1
theorem Bd.b (X : Bd K G w0 own cc nL rt rm) : (kc K).code = cc := X.2.1
theorem Bd.ml (X : Bd K G w0 own cc nL rt rm) : (kc K).maxLocals = nL := X.2.2.1
theorem Bd.ow (X : Bd K G w0 own cc nL rt rm) : (ks K).vm.findClass own = some (km K).cls := X.2.2.2.1
theorem Bd.ts (X : Bd K G w0 own cc nL rt rm) : ∀ w ∈ WS, w.before (ka K) (ks K) = true := X.2.2.2.2.1
theorem Bd.g (X : Bd K G w0 own cc nL rt rm) : gf G (ks K) := X.2.2.2.2.2.1
theorem Bd.re (X : Bd K G w0 own cc nL rt rm) : (kt K).sig.returnType = rt := X.2.2.2.2.2.2.1
theorem Bd.lk (X : Bd K G w0 own cc nL rt rm) : (kt K).locks = false := X.2.2.2.2.2.2.2.1
theorem Bd.ro (X : Bd K G w0 own cc nL rt rm) : kr K = rm := X.2.2.2.2.2.2.2.2.1
theorem Bd.sf (X : Bd K G w0 own cc nL rt rm) : sf (ks K) := X.2.2.2.2.2.2.2.2.2.1
theorem Bd.sa (X : Bd K G w0 own cc nL rt rm) : ∀ (a : Nat) (cell : Cell), (ks K).heap[a]? = some cell → cell.vm.isStatics = true → ¬ va_A w0 (ks K).heap.size a := X.2.2.2.2.2.2.2.2.2.2.1
theorem Bd.lok (X : Bd K G w0 own cc nL rt rm) : LOK (kl K) := X.2.2.2.2.2.2.2.2.2.2.2
theorem st_apart {U : State} (hP : va_P G.1 classes w U.heap) : ∀ (a : Nat) (cell : Cell), U.heap[a]? = some cell → cell.vm.isStatics = true → ¬ va_A w U.heap.size a := by
  intro a cell hc hs hA
  rcases hA with ⟨k, e, hk⟩ | h
  · have h1 := hP k _ hk
    cases e with
    | inl x =>
      have h2 : U.heap[a]? = some (vp_cell x.1 x.2) := h1
      cases hc.symm.trans h2
      cases vp_none x.1 x.2 hs
    | inr x =>
      obtain ⟨r, -, c2, q1, -, q3, -⟩ := h1
      cases hc.symm.trans q1
      rw [q3] at hs
      cases hs
  · have := (Array.getElem?_eq_some_iff.mp hc).1
    omega
theorem Ct.of {y : MethodName} {av : List Value} {post : PostT} (hy : plainName y.cls = true) (hsl : (lg_sl av).length ≤ nL)
    (h : ∀ K : KX, Bd K G w y.cls cc nL rt rm → Lb K G w (Qe K G w post rm) nL 0 (lv_args 0 av) [] w 0 0) : Ct y cc nL rt rm G av w post := by
  intro l hlok sz
  refine Met.ofW (cc := cc) (maxL := nL) (ret := rt) hy rfl ?_
  intro p e s m args below meth c s₁ B hml hv
  obtain ⟨rfl, hsz, hP, hD0, hG, hF⟩ := hv
  subst hsz
  have hts := atoms_spec (ws := .code y cc nL rt :: WS) B.pre
  have hl := lv_entry av (n := nL) hsl
  rw [lg_entry_eq]
  exact h (p, l, e, (headSpec (.code y cc nL rt :: WS) rm).room, s, m, _, below, meth, c) ⟨B.exec, B.bytes, hml, findClass_of_methodNamed B.named, fun w hw => hts w (List.mem_cons_of_mem _ hw), hG, B.returns, B.notSynchronized, rfl, hF, st_apart hP, hlok⟩ _ _ _ hl hP hD0.self va_S.rf
-- rows that touch no cell
theorem b_iconst (X : Bd K G w0 own cc nL rt rm) {n : Int} {v : Int32} (d : decode cc pc = .ok (.iconst n, 1)) (hv : Int32.ofInt n = v) (k : Lb K G w0 Q nL (pc + 1) lv (.int v :: st) w cells slots) : Lb K G w0 Q nL (pc) lv (st) w cells slots :=
  fun ls H locs hl hP hD hS => lv_iconst X.x X.b d hv (k ls H locs hl hP hD hS)
theorem b_bipush (X : Bd K G w0 own cc nL rt rm) {n : Int} {v : Int32} (d : decode cc pc = .ok (.bipush n, 2)) (hv : (Int8.ofInt n).toInt32 = v) (k : Lb K G w0 Q nL (pc + 2) lv (.int v :: st) w cells slots) : Lb K G w0 Q nL (pc) lv (st) w cells slots :=
  fun ls H locs hl hP hD hS => lv_bipush X.x X.b d hv (k ls H locs hl hP hD hS)
theorem b_sipush (X : Bd K G w0 own cc nL rt rm) {n : Int} {v : Int32} (d : decode cc pc = .ok (.sipush n, 3)) (hv : (Int16.ofInt n).toInt32 = v) (k : Lb K G w0 Q nL (pc + 3) lv (.int v :: st) w cells slots) : Lb K G w0 Q nL (pc) lv (st) w cells slots :=
  fun ls H locs hl hP hD hS => lv_sipush X.x X.b d hv (k ls H locs hl hP hD hS)
theorem b_lconst (X : Bd K G w0 own cc nL rt rm) {n : Fin 2} {v : Int64} (d : decode cc pc = .ok (.lconst n, 1)) (hv : Int64.ofNat (n : Nat) = v) (k : Lb K G w0 Q nL (pc + 1) lv (.long v :: st) w cells slots) : Lb K G w0 Q nL (pc) lv (st) w cells slots :=
  fun ls H locs hl hP hD hS => lv_lconst X.x X.b d hv (k ls H locs hl hP hD hS)
theorem b_iload_n (X : Bd K G w0 own cc nL rt rm) {i : Fin 4} {j : Nat} {x : Int32} (d : decode cc pc = .ok (.iload_n i, 1)) (a : Nat) (ha : lv[a]? = some (j, .int x)) (hi : (i : Nat) = j) (k : Lb K G w0 Q nL (pc + 1) lv (.int x :: st) w cells slots) : Lb K G w0 Q nL (pc) lv (st) w cells slots :=
  fun ls H locs hl hP hD hS => lv_iload_n X.x X.b d hi (lv_at hl a ha) (k ls H locs hl hP hD hS)
theorem b_iload (X : Bd K G w0 own cc nL rt rm) {j : Nat} {x : Int32} (d : decode cc pc = .ok (.iload j, 2)) (a : Nat) (ha : lv[a]? = some (j, .int x)) (k : Lb K G w0 Q nL (pc + 2) lv (.int x :: st) w cells slots) : Lb K G w0 Q nL (pc) lv (st) w cells slots :=
  fun ls H locs hl hP hD hS => lv_iload X.x X.b d (lv_at hl a ha) (k ls H locs hl hP hD hS)
theorem b_lload_n (X : Bd K G w0 own cc nL rt rm) {i : Fin 4} {j : Nat} {x : Int64} (d : decode cc pc = .ok (.lload_n i, 1)) (a : Nat) (ha : lv[a]? = some (j, .long x)) (hi : (i : Nat) = j) (k : Lb K G w0 Q nL (pc + 1) lv (.long x :: st) w cells slots) : Lb K G w0 Q nL (pc) lv (st) w cells slots :=
  fun ls H locs hl hP hD hS => lv_lload_n X.x X.b d hi (lv_at hl a ha) (k ls H locs hl hP hD hS)
theorem b_lload (X : Bd K G w0 own cc nL rt rm) {j : Nat} {x : Int64} (d : decode cc pc = .ok (.lload j, 2)) (a : Nat) (ha : lv[a]? = some (j, .long x)) (k : Lb K G w0 Q nL (pc + 2) lv (.long x :: st) w cells slots) : Lb K G w0 Q nL (pc) lv (st) w cells slots :=
  fun ls H locs hl hP hD hS => lv_lload X.x X.b d (lv_at hl a ha) (k ls H locs hl hP hD hS)
theorem b_aload_n (X : Bd K G w0 own cc nL rt rm) {i : Fin 4} {j : Nat} {x : Nat} (d : decode cc pc = .ok (.aload_n i, 1)) (a : Nat) (ha : lv[a]? = some (j, .ref x)) (hi : (i : Nat) = j) (k : Lb K G w0 Q nL (pc + 1) lv (.ref x :: st) w cells slots) : Lb K G w0 Q nL (pc) lv (st) w cells slots :=
  fun ls H locs hl hP hD hS => lv_aload_n X.x X.b d hi (lv_at hl a ha) (k ls H locs hl hP hD hS)
theorem b_aload (X : Bd K G w0 own cc nL rt rm) {j : Nat} {x : Nat} (d : decode cc pc = .ok (.aload j, 2)) (a : Nat) (ha : lv[a]? = some (j, .ref x)) (k : Lb K G w0 Q nL (pc + 2) lv (.ref x :: st) w cells slots) : Lb K G w0 Q nL (pc) lv (st) w cells slots :=
  fun ls H locs hl hP hD hS => lv_aload X.x X.b d (lv_at hl a ha) (k ls H locs hl hP hD hS)
theorem b_istore_n (X : Bd K G w0 own cc nL rt rm) {i : Fin 4} {j : Nat} {x : Int32} {lv' : List (Nat × Value)} (d : decode cc pc = .ok (.istore_n i, 1)) (hi : (i : Nat) = j) (hn : j < nL) (ks : List Nat) (hl' : lv_pick ((j, Value.int x) :: lv.filter (fun q => !(q.1 == j) && !(q.1 + 1 == j && q.2.category == 2))) ks = lv') (k : Lb K G w0 Q nL (pc + 1) lv' (st) w cells slots) : Lb K G w0 Q nL (pc) lv (.int x :: st) w cells slots :=
  fun ls H locs hl hP hD hS => lv_istore_n X.x X.b d hi hl hn rfl (fun ls' hl2 => k ls' H locs (lv_sub hl2 ks hl') hP hD hS)
theorem b_istore (X : Bd K G w0 own cc nL rt rm) {j : Nat} {x : Int32} {lv' : List (Nat × Value)} (d : decode cc pc = .ok (.istore j, 2)) (hn : j < nL) (ks : List Nat) (hl' : lv_pick ((j, Value.int x) :: lv.filter (fun q => !(q.1 == j) && !(q.1 + 1 == j && q.2.category == 2))) ks = lv') (k : Lb K G w0 Q nL (pc + 2) lv' (st) w cells slots) : Lb K G w0 Q nL (pc) lv (.int x :: st) w cells slots :=
  fun ls H locs hl hP hD hS => lv_istore X.x X.b d hl hn rfl (fun ls' hl2 => k ls' H locs (lv_sub hl2 ks hl') hP hD hS)
theorem b_lstore_n (X : Bd K G w0 own cc nL rt rm) {i : Fin 4} {j : Nat} {x : Int64} {lv' : List (Nat × Value)} (d : decode cc pc = .ok (.lstore_n i, 1)) (hi : (i : Nat) = j) (hn : j + 1 < nL) (ks : List Nat) (hl' : lv_pick ((j, Value.long x) :: lv.filter (fun q => !(q.1 == j) && (!(q.1 == j + 1) && !(q.1 + 1 == j && q.2.category == 2)))) ks = lv') (k : Lb K G w0 Q nL (pc + 1) lv' (st) w cells slots) : Lb K G w0 Q nL (pc) lv (.long x :: st) w cells slots :=
  fun ls H locs hl hP hD hS => lv_lstore_n X.x X.b d hi hl hn rfl (fun ls' hl2 => k ls' H locs (lv_sub hl2 ks hl') hP hD hS)
theorem b_lstore (X : Bd K G w0 own cc nL rt rm) {j : Nat} {x : Int64} {lv' : List (Nat × Value)} (d : decode cc pc = .ok (.lstore j, 2)) (hn : j + 1 < nL) (ks : List Nat) (hl' : lv_pick ((j, Value.long x) :: lv.filter (fun q => !(q.1 == j) && (!(q.1 == j + 1) && !(q.1 + 1 == j && q.2.category == 2)))) ks = lv') (k : Lb K G w0 Q nL (pc + 2) lv' (st) w cells slots) : Lb K G w0 Q nL (pc) lv (.long x :: st) w cells slots :=
  fun ls H locs hl hP hD hS => lv_lstore X.x X.b d hl hn rfl (fun ls' hl2 => k ls' H locs (lv_sub hl2 ks hl') hP hD hS)
theorem b_astore_n (X : Bd K G w0 own cc nL rt rm) {i : Fin 4} {j : Nat} {x : Nat} {lv' : List (Nat × Value)} (d : decode cc pc = .ok (.astore_n i, 1)) (hi : (i : Nat) = j) (hn : j < nL) (ks : List Nat) (hl' : lv_pick ((j, Value.ref x) :: lv.filter (fun q => !(q.1 == j) && !(q.1 + 1 == j && q.2.category == 2))) ks = lv') (k : Lb K G w0 Q nL (pc + 1) lv' (st) w cells slots) : Lb K G w0 Q nL (pc) lv (.ref x :: st) w cells slots :=
  fun ls H locs hl hP hD hS => lv_astore_n X.x X.b d hi hl hn rfl (fun ls' hl2 => k ls' H locs (lv_sub hl2 ks hl') hP hD hS)
theorem b_astore (X : Bd K G w0 own cc nL rt rm) {j : Nat} {x : Nat} {lv' : List (Nat × Value)} (d : decode cc pc = .ok (.astore j, 2)) (hn : j < nL) (ks : List Nat) (hl' : lv_pick ((j, Value.ref x) :: lv.filter (fun q => !(q.1 == j) && !(q.1 + 1 == j && q.2.category == 2))) ks = lv') (k : Lb K G w0 Q nL (pc + 2) lv' (st) w cells slots) : Lb K G w0 Q nL (pc) lv (.ref x :: st) w cells slots :=
  fun ls H locs hl hP hD hS => lv_astore X.x X.b d hl hn rfl (fun ls' hl2 => k ls' H locs (lv_sub hl2 ks hl') hP hD hS)
theorem b_iinc (X : Bd K G w0 own cc nL rt rm) {j : Nat} {n : Int} {x v : Int32} {lv' : List (Nat × Value)} (d : decode cc pc = .ok (.iinc j n, 3)) (a : Nat) (ha : lv[a]? = some (j, .int x)) (hv : x + Int32.ofInt n = v) (hn : j < nL) (ks : List Nat) (hl' : lv_pick ((j, Value.int v) :: lv.filter (fun q => !(q.1 == j) && !(q.1 + 1 == j && q.2.category == 2))) ks = lv') (k : Lb K G w0 Q nL (pc + 3) lv' (st) w cells slots) : Lb K G w0 Q nL (pc) lv (st) w cells slots :=
  fun ls H locs hl hP hD hS => lv_iinc X.x X.b d hl ha hv hn rfl (fun ls' hl2 => k ls' H locs (lv_sub hl2 ks hl') hP hD hS)
theorem b_iadd (X : Bd K G w0 own cc nL rt rm) {x y : Int32} (d : decode cc pc = .ok (.iadd, 1)) (k : Lb K G w0 Q nL (pc + 1) lv (.int (x + y) :: st) w cells slots) : Lb K G w0 Q nL (pc) lv (.int y :: .int x :: st) w cells slots :=
  fun ls H locs hl hP hD hS => lv_iadd X.x X.b d (k ls H locs hl hP hD hS)
theorem b_isub (X : Bd K G w0 own cc nL rt rm) {x y : Int32} (d : decode cc pc = .ok (.isub, 1)) (k : Lb K G w0 Q nL (pc + 1) lv (.int (x - y) :: st) w cells slots) : Lb K G w0 Q nL (pc) lv (.int y :: .int x :: st) w cells slots :=
  fun ls H locs hl hP hD hS => lv_isub X.x X.b d (k ls H locs hl hP hD hS)
theorem b_imul (X : Bd K G w0 own cc nL rt rm) {x y : Int32} (d : decode cc pc = .ok (.imul, 1)) (k : Lb K G w0 Q nL (pc + 1) lv (.int (x * y) :: st) w cells slots) : Lb K G w0 Q nL (pc) lv (.int y :: .int x :: st) w cells slots :=
  fun ls H locs hl hP hD hS => lv_imul X.x X.b d (k ls H locs hl hP hD hS)
theorem b_iand (X : Bd K G w0 own cc nL rt rm) {x y : Int32} (d : decode cc pc = .ok (.iand, 1)) (k : Lb K G w0 Q nL (pc + 1) lv (.int (x &&& y) :: st) w cells slots) : Lb K G w0 Q nL (pc) lv (.int y :: .int x :: st) w cells slots :=
  fun ls H locs hl hP hD hS => lv_iand X.x X.b d (k ls H locs hl hP hD hS)
theorem b_ior (X : Bd K G w0 own cc nL rt rm) {x y : Int32} (d : decode cc pc = .ok (.ior, 1)) (k : Lb K G w0 Q nL (pc + 1) lv (.int (x ||| y) :: st) w cells slots) : Lb K G w0 Q nL (pc) lv (.int y :: .int x :: st) w cells slots :=
  fun ls H locs hl hP hD hS => lv_ior X.x X.b d (k ls H locs hl hP hD hS)
theorem b_ixor (X : Bd K G w0 own cc nL rt rm) {x y : Int32} (d : decode cc pc = .ok (.ixor, 1)) (k : Lb K G w0 Q nL (pc + 1) lv (.int (x ^^^ y) :: st) w cells slots) : Lb K G w0 Q nL (pc) lv (.int y :: .int x :: st) w cells slots :=
  fun ls H locs hl hP hD hS => lv_ixor X.x X.b d (k ls H locs hl hP hD hS)
theorem b_ladd (X : Bd K G w0 own cc nL rt rm) {x y : Int64} (d : decode cc pc = .ok (.ladd, 1)) (k : Lb K G w0 Q nL (pc + 1) lv (.long (x + y) :: st) w cells slots) : Lb K G w0 Q nL (pc) lv (.long y :: .long x :: st) w cells slots :=
  fun ls H locs hl hP hD hS => lv_ladd X.x X.b d (k ls H locs hl hP hD hS)
theorem b_lsub (X : Bd K G w0 own cc nL rt rm) {x y : Int64} (d : decode cc pc = .ok (.lsub, 1)) (k : Lb K G w0 Q nL (pc + 1) lv (.long (x - y) :: st) w cells slots) : Lb K G w0 Q nL (pc) lv (.long y :: .long x :: st) w cells slots :=
  fun ls H locs hl hP hD hS => lv_lsub X.x X.b d (k ls H locs hl hP hD hS)
theorem b_lmul (X : Bd K G w0 own cc nL rt rm) {x y : Int64} (d : decode cc pc = .ok (.lmul, 1)) (k : Lb K G w0 Q nL (pc + 1) lv (.long (x * y) :: st) w cells slots) : Lb K G w0 Q nL (pc) lv (.long y :: .long x :: st) w cells slots :=
  fun ls H locs hl hP hD hS => lv_lmul X.x X.b d (k ls H locs hl hP hD hS)
theorem b_land (X : Bd K G w0 own cc nL rt rm) {x y : Int64} (d : decode cc pc = .ok (.land, 1)) (k : Lb K G w0 Q nL (pc + 1) lv (.long (x &&& y) :: st) w cells slots) : Lb K G w0 Q nL (pc) lv (.long y :: .long x :: st) w cells slots :=
  fun ls H locs hl hP hD hS => lv_land X.x X.b d (k ls H locs hl hP hD hS)
theorem b_lor (X : Bd K G w0 own cc nL rt rm) {x y : Int64} (d : decode cc pc = .ok (.lor, 1)) (k : Lb K G w0 Q nL (pc + 1) lv (.long (x ||| y) :: st) w cells slots) : Lb K G w0 Q nL (pc) lv (.long y :: .long x :: st) w cells slots :=
  fun ls H locs hl hP hD hS => lv_lor X.x X.b d (k ls H locs hl hP hD hS)
theorem b_lxor (X : Bd K G w0 own cc nL rt rm) {x y : Int64} (d : decode cc pc = .ok (.lxor, 1)) (k : Lb K G w0 Q nL (pc + 1) lv (.long (x ^^^ y) :: st) w cells slots) : Lb K G w0 Q nL (pc) lv (.long y :: .long x :: st) w cells slots :=
  fun ls H locs hl hP hD hS => lv_lxor X.x X.b d (k ls H locs hl hP hD hS)
theorem b_ineg (X : Bd K G w0 own cc nL rt rm) {x : Int32} (d : decode cc pc = .ok (.ineg, 1)) (k : Lb K G w0 Q nL (pc + 1) lv (.int (-x) :: st) w cells slots) : Lb K G w0 Q nL (pc) lv (.int x :: st) w cells slots :=
  fun ls H locs hl hP hD hS => lv_ineg X.x X.b d (k ls H locs hl hP hD hS)
theorem b_ishl (X : Bd K G w0 own cc nL rt rm) {x y : Int32} (d : decode cc pc = .ok (.ishl, 1)) (k : Lb K G w0 Q nL (pc + 1) lv (.int (x <<< (y &&& 31)) :: st) w cells slots) : Lb K G w0 Q nL (pc) lv (.int y :: .int x :: st) w cells slots :=
  fun ls H locs hl hP hD hS => lv_ishl X.x X.b d (k ls H locs hl hP hD hS)
theorem b_ishr (X : Bd K G w0 own cc nL rt rm) {x y : Int32} (d : decode cc pc = .ok (.ishr, 1)) (k : Lb K G w0 Q nL (pc + 1) lv (.int (x >>> (y &&& 31)) :: st) w cells slots) : Lb K G w0 Q nL (pc) lv (.int y :: .int x :: st) w cells slots :=
  fun ls H locs hl hP hD hS => lv_ishr X.x X.b d (k ls H locs hl hP hD hS)
theorem b_iushr (X : Bd K G w0 own cc nL rt rm) {x y v : Int32} (d : decode cc pc = .ok (.iushr, 1)) (hv : (x.toUInt32 >>> (y.toUInt32 &&& Int32.toUInt32 31)).toInt32 = v) (k : Lb K G w0 Q nL (pc + 1) lv (.int v :: st) w cells slots) : Lb K G w0 Q nL (pc) lv (.int y :: .int x :: st) w cells slots :=
  fun ls H locs hl hP hD hS => lv_iushr X.x X.b d hv (k ls H locs hl hP hD hS)
theorem b_lushr (X : Bd K G w0 own cc nL rt rm) {x v : Int64} {y : Int32} (d : decode cc pc = .ok (.lushr, 1)) (hv : (x.toUInt64 >>> (y.toInt64.toUInt64 &&& Int64.toUInt64 63)).toInt64 = v) (k : Lb K G w0 Q nL (pc + 1) lv (.long v :: st) w cells slots) : Lb K G w0 Q nL (pc) lv (.int y :: .long x :: st) w cells slots :=
  fun ls H locs hl hP hD hS => lv_lushr X.x X.b d hv (k ls H locs hl hP hD hS)
theorem b_lshl (X : Bd K G w0 own cc nL rt rm) {x v : Int64} {y : Int32} (d : decode cc pc = .ok (.lshl, 1)) (hv : x <<< (y.toInt64 &&& 63) = v) (k : Lb K G w0 Q nL (pc + 1) lv (.long v :: st) w cells slots) : Lb K G w0 Q nL (pc) lv (.int y :: .long x :: st) w cells slots :=
  fun ls H locs hl hP hD hS => lv_lshl X.x X.b d hv (k ls H locs hl hP hD hS)
theorem b_lshr (X : Bd K G w0 own cc nL rt rm) {x v : Int64} {y : Int32} (d : decode cc pc = .ok (.lshr, 1)) (hv : x >>> (y.toInt64 &&& 63) = v) (k : Lb K G w0 Q nL (pc + 1) lv (.long v :: st) w cells slots) : Lb K G w0 Q nL (pc) lv (.int y :: .long x :: st) w cells slots :=
  fun ls H locs hl hP hD hS => lv_lshr X.x X.b d hv (k ls H locs hl hP hD hS)
theorem b_i2l (X : Bd K G w0 own cc nL rt rm) {x : Int32} {v : Int64} (d : decode cc pc = .ok (.i2l, 1)) (hv : x.toInt64 = v) (k : Lb K G w0 Q nL (pc + 1) lv (.long v :: st) w cells slots) : Lb K G w0 Q nL (pc) lv (.int x :: st) w cells slots :=
  fun ls H locs hl hP hD hS => lv_i2l X.x X.b d hv (k ls H locs hl hP hD hS)
theorem b_l2i (X : Bd K G w0 own cc nL rt rm) {x : Int64} {v : Int32} (d : decode cc pc = .ok (.l2i, 1)) (hv : x.toInt32 = v) (k : Lb K G w0 Q nL (pc + 1) lv (.int v :: st) w cells slots) : Lb K G w0 Q nL (pc) lv (.long x :: st) w cells slots :=
  fun ls H locs hl hP hD hS => lv_l2i X.x X.b d hv (k ls H locs hl hP hD hS)
theorem b_lcmp (X : Bd K G w0 own cc nL rt rm) {x y : Int64} (d : decode cc pc = .ok (.lcmp, 1)) (k : Lb K G w0 Q nL (pc + 1) lv (.int (lg_cmp x y) :: st) w cells slots) : Lb K G w0 Q nL (pc) lv (.long y :: .long x :: st) w cells slots :=
  fun ls H locs hl hP hD hS => W.lcmp X.x X.b d (k ls H locs hl hP hD hS)
theorem b_dup (X : Bd K G w0 own cc nL rt rm) {v : Value} (d : decode cc pc = .ok (.dup, 1)) (h1 : v.category = 1) (k : Lb K G w0 Q nL (pc + 1) lv (v :: v :: st) w cells slots) : Lb K G w0 Q nL (pc) lv (v :: st) w cells slots :=
  fun ls H locs hl hP hD hS => lv_dup X.x X.b d h1 (k ls H locs hl hP hD hS)
theorem b_pop (X : Bd K G w0 own cc nL rt rm) {v : Value} (d : decode cc pc = .ok (.pop, 1)) (h1 : v.category = 1) (k : Lb K G w0 Q nL (pc + 1) lv (st) w cells slots) : Lb K G w0 Q nL (pc) lv (v :: st) w cells slots :=
  fun ls H locs hl hP hD hS => lv_pop X.x X.b d h1 (k ls H locs hl hP hD hS)
theorem b_dup_x1 (X : Bd K G w0 own cc nL rt rm) {v u : Value} (d : decode cc pc = .ok (.dup_x1, 1)) (h1 : v.category = 1) (h2 : u.category = 1) (k : Lb K G w0 Q nL (pc + 1) lv (v :: u :: v :: st) w cells slots) : Lb K G w0 Q nL (pc) lv (v :: u :: st) w cells slots :=
  fun ls H locs hl hP hD hS => lv_dup_x1 X.x X.b d h1 h2 (k ls H locs hl hP hD hS)
theorem b_dup2 (X : Bd K G w0 own cc nL rt rm) {v u : Value} (d : decode cc pc = .ok (.dup2, 1)) (h1 : v.category = 1) (h2 : u.category = 1) (k : Lb K G w0 Q nL (pc + 1) lv (v :: u :: v :: u :: st) w cells slots) : Lb K G w0 Q nL (pc) lv (v :: u :: st) w cells slots :=
  fun ls H locs hl hP hD hS => lv_dup2_11 X.x X.b d h1 h2 (k ls H locs hl hP hD hS)
theorem b_dup2_2 (X : Bd K G w0 own cc nL rt rm) {v : Value} (d : decode cc pc = .ok (.dup2, 1)) (h1 : v.category = 2) (k : Lb K G w0 Q nL (pc + 1) lv (v :: v :: st) w cells slots) : Lb K G w0 Q nL (pc) lv (v :: st) w cells slots :=
  fun ls H locs hl hP hD hS => lv_dup2_2 X.x X.b d h1 (k ls H locs hl hP hD hS)
theorem b_if_eq (X : Bd K G w0 own cc nL rt rm) {x : Int32} {off : Int} {tgt : Nat} (d : decode cc pc = .ok (.ifCond .eq off, 3)) (ht : (pc : Int) + off = (tgt : Int)) (kt : x = 0 → Lb K G w0 Q nL (tgt) lv (st) w cells slots) (kf : ¬ (x = 0) → Lb K G w0 Q nL (pc + 3) lv (st) w cells slots) : Lb K G w0 Q nL (pc) lv (.int x :: st) w cells slots :=
  fun ls H locs hl hP hD hS => lv_if_eq X.x X.b d ht (fun h => kt h ls H locs hl hP hD hS) (fun h => kf h ls H locs hl hP hD hS)
theorem b_icmp_eq (X : Bd K G w0 own cc nL rt rm) {x y : Int32} {off : Int} {tgt : Nat} (d : decode cc pc = .ok (.if_icmp .eq off, 3)) (ht : (pc : Int) + off = (tgt : Int)) (kt : x = y → Lb K G w0 Q nL (tgt) lv (st) w cells slots) (kf : ¬ (x = y) → Lb K G w0 Q nL (pc + 3) lv (st) w cells slots) : Lb K G w0 Q nL (pc) lv (.int y :: .int x :: st) w cells slots :=
  fun ls H locs hl hP hD hS => lv_icmp_eq X.x X.b d ht (fun h => kt h ls H locs hl hP hD hS) (fun h => kf h ls H locs hl hP hD hS)
theorem b_if_ne (X : Bd K G w0 own cc nL rt rm) {x : Int32} {off : Int} {tgt : Nat} (d : decode cc pc = .ok (.ifCond .ne off, 3)) (ht : (pc : Int) + off = (tgt : Int)) (kt : ¬ x = 0 → Lb K G w0 Q nL (tgt) lv (st) w cells slots) (kf : x = 0 → Lb K G w0 Q nL (pc + 3) lv (st) w cells slots) : Lb K G w0 Q nL (pc) lv (.int x :: st) w cells slots :=
  fun ls H locs hl hP hD hS => lv_if_ne X.x X.b d ht (fun h => kt h ls H locs hl hP hD hS) (fun h => kf h ls H locs hl hP hD hS)
theorem b_icmp_ne (X : Bd K G w0 own cc nL rt rm) {x y : Int32} {off : Int} {tgt : Nat} (d : decode cc pc = .ok (.if_icmp .ne off, 3)) (ht : (pc : Int) + off = (tgt : Int)) (kt : ¬ x = y → Lb K G w0 Q nL (tgt) lv (st) w cells slots) (kf : x = y → Lb K G w0 Q nL (pc + 3) lv (st) w cells slots) : Lb K G w0 Q nL (pc) lv (.int y :: .int x :: st) w cells slots :=
  fun ls H locs hl hP hD hS => lv_icmp_ne X.x X.b d ht (fun h => kt h ls H locs hl hP hD hS) (fun h => kf h ls H locs hl hP hD hS)
theorem b_if_lt (X : Bd K G w0 own cc nL rt rm) {x : Int32} {off : Int} {tgt : Nat} (d : decode cc pc = .ok (.ifCond .lt off, 3)) (ht : (pc : Int) + off = (tgt : Int)) (kt : x < 0 → Lb K G w0 Q nL (tgt) lv (st) w cells slots) (kf : ¬ (x < 0) → Lb K G w0 Q nL (pc + 3) lv (st) w cells slots) : Lb K G w0 Q nL (pc) lv (.int x :: st) w cells slots :=
  fun ls H locs hl hP hD hS => lv_if_lt X.x X.b d ht (fun h => kt h ls H locs hl hP hD hS) (fun h => kf h ls H locs hl hP hD hS)
theorem b_icmp_lt (X : Bd K G w0 own cc nL rt rm) {x y : Int32} {off : Int} {tgt : Nat} (d : decode cc pc = .ok (.if_icmp .lt off, 3)) (ht : (pc : Int) + off = (tgt : Int)) (kt : x < y → Lb K G w0 Q nL (tgt) lv (st) w cells slots) (kf : ¬ (x < y) → Lb K G w0 Q nL (pc + 3) lv (st) w cells slots) : Lb K G w0 Q nL (pc) lv (.int y :: .int x :: st) w cells slots :=
  fun ls H locs hl hP hD hS => lv_icmp_lt X.x X.b d ht (fun h => kt h ls H locs hl hP hD hS) (fun h => kf h ls H locs hl hP hD hS)
theorem b_if_ge (X : Bd K G w0 own cc nL rt rm) {x : Int32} {off : Int} {tgt : Nat} (d : decode cc pc = .ok (.ifCond .ge off, 3)) (ht : (pc : Int) + off = (tgt : Int)) (kt : 0 ≤ x → Lb K G w0 Q nL (tgt) lv (st) w cells slots) (kf : ¬ (0 ≤ x) → Lb K G w0 Q nL (pc + 3) lv (st) w cells slots) : Lb K G w0 Q nL (pc) lv (.int x :: st) w cells slots :=
  fun ls H locs hl hP hD hS => lv_if_ge X.x X.b d ht (fun h => kt h ls H locs hl hP hD hS) (fun h => kf h ls H locs hl hP hD hS)
theorem b_icmp_ge (X : Bd K G w0 own cc nL rt rm) {x y : Int32} {off : Int} {tgt : Nat} (d : decode cc pc = .ok (.if_icmp .ge off, 3)) (ht : (pc : Int) + off = (tgt : Int)) (kt : y ≤ x → Lb K G w0 Q nL (tgt) lv (st) w cells slots) (kf : ¬ (y ≤ x) → Lb K G w0 Q nL (pc + 3) lv (st) w cells slots) : Lb K G w0 Q nL (pc) lv (.int y :: .int x :: st) w cells slots :=
  fun ls H locs hl hP hD hS => lv_icmp_ge X.x X.b d ht (fun h => kt h ls H locs hl hP hD hS) (fun h => kf h ls H locs hl hP hD hS)
theorem b_if_gt (X : Bd K G w0 own cc nL rt rm) {x : Int32} {off : Int} {tgt : Nat} (d : decode cc pc = .ok (.ifCond .gt off, 3)) (ht : (pc : Int) + off = (tgt : Int)) (kt : 0 < x → Lb K G w0 Q nL (tgt) lv (st) w cells slots) (kf : ¬ (0 < x) → Lb K G w0 Q nL (pc + 3) lv (st) w cells slots) : Lb K G w0 Q nL (pc) lv (.int x :: st) w cells slots :=
  fun ls H locs hl hP hD hS => lv_if_gt X.x X.b d ht (fun h => kt h ls H locs hl hP hD hS) (fun h => kf h ls H locs hl hP hD hS)
theorem b_icmp_gt (X : Bd K G w0 own cc nL rt rm) {x y : Int32} {off : Int} {tgt : Nat} (d : decode cc pc = .ok (.if_icmp .gt off, 3)) (ht : (pc : Int) + off = (tgt : Int)) (kt : y < x → Lb K G w0 Q nL (tgt) lv (st) w cells slots) (kf : ¬ (y < x) → Lb K G w0 Q nL (pc + 3) lv (st) w cells slots) : Lb K G w0 Q nL (pc) lv (.int y :: .int x :: st) w cells slots :=
  fun ls H locs hl hP hD hS => lv_icmp_gt X.x X.b d ht (fun h => kt h ls H locs hl hP hD hS) (fun h => kf h ls H locs hl hP hD hS)
theorem b_if_le (X : Bd K G w0 own cc nL rt rm) {x : Int32} {off : Int} {tgt : Nat} (d : decode cc pc = .ok (.ifCond .le off, 3)) (ht : (pc : Int) + off = (tgt : Int)) (kt : x ≤ 0 → Lb K G w0 Q nL (tgt) lv (st) w cells slots) (kf : ¬ (x ≤ 0) → Lb K G w0 Q nL (pc + 3) lv (st) w cells slots) : Lb K G w0 Q nL (pc) lv (.int x :: st) w cells slots :=
  fun ls H locs hl hP hD hS => lv_if_le X.x X.b d ht (fun h => kt h ls H locs hl hP hD hS) (fun h => kf h ls H locs hl hP hD hS)
theorem b_icmp_le (X : Bd K G w0 own cc nL rt rm) {x y : Int32} {off : Int} {tgt : Nat} (d : decode cc pc = .ok (.if_icmp .le off, 3)) (ht : (pc : Int) + off = (tgt : Int)) (kt : x ≤ y → Lb K G w0 Q nL (tgt) lv (st) w cells slots) (kf : ¬ (x ≤ y) → Lb K G w0 Q nL (pc + 3) lv (st) w cells slots) : Lb K G w0 Q nL (pc) lv (.int y :: .int x :: st) w cells slots :=
  fun ls H locs hl hP hD hS => lv_icmp_le X.x X.b d ht (fun h => kt h ls H locs hl hP hD hS) (fun h => kf h ls H locs hl hP hD hS)
theorem b_goto (X : Bd K G w0 own cc nL rt rm) {off : Int} {tgt : Nat} (d : decode cc pc = .ok (.goto off, 3)) (ht : (pc : Int) + off = (tgt : Int)) (k : Lb K G w0 Q nL (tgt) lv (st) w cells slots) : Lb K G w0 Q nL (pc) lv (st) w cells slots :=
  fun ls H locs hl hP hD hS => lv_goto X.x X.b d ht (k ls H locs hl hP hD hS)
theorem Lb.eq {lv' : List (Nat × Value)} {st' : List Value} {w' : va_W} (h1 : lv = lv') (h2 : st = st') (h3 : w = w') (k : Lb K G w0 Q nL pc lv' st' w' cells slots) : Lb K G w0 Q nL pc lv st w cells slots := by
  subst h1; subst h2; subst h3; exact k
theorem Lb.pick {lv' : List (Nat × Value)} (ks : List Nat) (h : lv_pick lv ks = lv') (k : Lb K G w0 Q nL pc lv' st w cells slots) : Lb K G w0 Q nL pc lv st w cells slots :=
  fun ls H locs hl hP hD hS => k ls H locs (lv_sub hl ks h) hP hD hS
theorem Lb.world {w' : va_W} (is : List Nat) (hn : va_nd is = true) (hs : is.map (fun i => w[i]?) = w'.map some) (k : Lb K G w0 Q nL pc lv st w' cells slots) : Lb K G w0 Q nL pc lv st w cells slots := by
  intro ls H locs hl hP hD hS
  refine k ls H locs hl (fun i q hq => ?_) (hD.sub is hn hs) hS
  have h1 : (is.map (fun i => w[i]?))[i]? = some (some q) := by rw [hs, List.getElem?_map, hq]; rfl
  rw [List.getElem?_map] at h1
  cases hi : is[i]? with
  | none => rw [hi] at h1; cases h1
  | some j => rw [hi] at h1; exact hP j q (Option.some.inj h1)
theorem Lb.widen {c' s' : Nat} (h1 : cells ≤ c') (h2 : slots ≤ s') (k : Lb K G w0 Q nL pc lv st w c' s') : Lb K G w0 Q nL pc lv st w cells slots :=
  fun ls H locs hl hP hD hS => W.widen h1 h2 (k ls H locs hl hP hD hS)
-- long compares with their branch
theorem bl_cmp_eq {x y : Int64} : lg_cmp x y = 0 ↔ x = y := by
  unfold lg_cmp
  by_cases h1 : y < x
  · simp only [h1, if_true]
    refine ⟨fun h => absurd h (by decide), fun h => ?_⟩
    subst h
    exact absurd h1 (by simp)
  · by_cases h2 : x = y
    · simp [h1, h2]
    · simp only [h1, h2, if_false]
      exact ⟨fun h => absurd h (by decide), fun h => h.elim⟩
theorem b_l_ne (X : Bd K G w0 own cc nL rt rm) {x y : Int64} {off : Int} {tgt : Nat} (d1 : decode cc pc = .ok (.lcmp, 1)) (d2 : decode cc (pc + 1) = .ok (.ifCond .ne off, 3)) (ht : ((pc + 1 : Nat) : Int) + off = (tgt : Int)) (kt : ¬ x = y → Lb K G w0 Q nL tgt lv st w cells slots) (kf : x = y → Lb K G w0 Q nL (pc + 1 + 3) lv st w cells slots) : Lb K G w0 Q nL pc lv (.long y :: .long x :: st) w cells slots :=
  b_lcmp X d1 (b_if_ne X d2 ht (fun h => kt (fun z => h (bl_cmp_eq.mpr z))) (fun h => kf (bl_cmp_eq.mp h)))
theorem b_l_eq (X : Bd K G w0 own cc nL rt rm) {x y : Int64} {off : Int} {tgt : Nat} (d1 : decode cc pc = .ok (.lcmp, 1)) (d2 : decode cc (pc + 1) = .ok (.ifCond .eq off, 3)) (ht : ((pc + 1 : Nat) : Int) + off = (tgt : Int)) (kt : x = y → Lb K G w0 Q nL tgt lv st w cells slots) (kf : ¬ x = y → Lb K G w0 Q nL (pc + 1 + 3) lv st w cells slots) : Lb K G w0 Q nL pc lv (.long y :: .long x :: st) w cells slots :=
  b_lcmp X d1 (b_if_eq X d2 ht (fun h => kt (bl_cmp_eq.mp h)) (fun h => kf (fun z => h (bl_cmp_eq.mpr z))))
-- fields: FL own index ..: the entry 'index' of own's pool names field k of the component number ci
theorem b_get (X : Bd K G w0 own cc nL rt rm) {C : String} {T : u_T} {N ci index k a : Nat} (F : FL own index ci C T N k) (q0 : Nat) {fs : List Value} (he : w[q0]? = some (a, .inr (ci, fs))) {v : Value} (hv : fs[k]? = some v) (d : decode cc pc = .ok (.getfield index, 3)) (kk : Lb K G w0 Q nL (pc + 3) lv (v :: st) w cells slots) : Lb K G w0 Q nL pc lv (.ref a :: st) w cells slots :=
  fun ls H locs hl hP hD hS => va_get X.x X.b X.ts F.1 X.ow X.g.1 hP q0 he F.2.1 k F.2.2.1 (X.ts _ F.2.2.2) (fun _ h => h) hv d (kk ls H locs hl hP hD hS)
theorem b_put (X : Bd K G w0 own cc nL rt rm) {C : String} {T : u_T} {N ci index k a : Nat} {ty : FieldType} (F : FL own index ci C T N k) (P : PL ci C T N k ty) (q0 : Nat) {fs : List Value} (he : w[q0]? = some (a, .inr (ci, fs))) {v : Value} (hn : narrow ty v = v) (hfit : fits ty v = true) (hlen : k < fs.length) {w' : va_W} (hw : w.set q0 (a, .inr (ci, fs.set k v)) = w') (d : decode cc pc = .ok (.putfield index, 3)) (kk : Lb K G w0 Q nL (pc + 3) lv st w' cells slots) : Lb K G w0 Q nL pc lv (v :: .ref a :: st) w cells slots := by
  intro ls H locs hl hP hD hS
  obtain ⟨ty0, hty, hnm, hfin, hd⟩ := P
  subst hw
  exact va_put X.x X.b X.ts F.1 ty0 hty hnm X.ow X.g.1 hP hD hS q0 he F.2.1 k F.2.2.1 (X.ts _ F.2.2.2) (fun _ h => h) hfin hd hn hfit hlen d (fun H1 locs1 hP1 hD1 hS1 => kk ls H1 locs1 hl hP1 hD1 hS1)
-- arrays
theorem nI_in1 {i : Int32} {j n : Nat} (hi : i = nI j) (hj : j < n) (hn : n < 2 ^ 31) : vp_in i n ∧ i.toNatClampNeg = j := by
  subst hi
  exact ⟨vp_in_nI hj hn, nI_clamp (Nat.lt_trans hj hn)⟩
theorem b_iald (X : Bd K G w0 own cc nL rt rm) (q0 : Nat) {a n : Nat} {f : Nat → Int32} (ha : w[q0]? = some (a, .inl (G.2 0, n, .inl f))) (hn : n < 2 ^ 31) {i : Int32} (j : Nat) (hi : i = nI j) (hj : j < n) (d : decode cc pc = .ok (.iaload, 1)) (kk : Lb K G w0 Q nL (pc + 1) lv (.int (f j) :: st) w cells slots) : Lb K G w0 Q nL pc lv (.int i :: .ref a :: st) w cells slots := by
  intro ls H locs hl hP hD hS
  obtain ⟨h1, h2⟩ := nI_in1 hi hj hn
  refine va_iald X.x X.b X.g.1 hP q0 0 ha rfl h1 d ?_
  rw [h2]
  exact kk ls H locs hl hP hD hS
theorem b_lald (X : Bd K G w0 own cc nL rt rm) (q0 : Nat) {a n : Nat} {f : Nat → Int64} (ha : w[q0]? = some (a, .inl (G.2 1, n, .inr (.inl f)))) (hn : n < 2 ^ 31) {i : Int32} (j : Nat) (hi : i = nI j) (hj : j < n) (d : decode cc pc = .ok (.laload, 1)) (kk : Lb K G w0 Q nL (pc + 1) lv (.long (f j) :: st) w cells slots) : Lb K G w0 Q nL pc lv (.int i :: .ref a :: st) w cells slots := by
  intro ls H locs hl hP hD hS
  obtain ⟨h1, h2⟩ := nI_in1 hi hj hn
  refine va_lald X.x X.b X.g.1 hP q0 1 ha rfl h1 d ?_
  rw [h2]
  exact kk ls H locs hl hP hD hS
theorem b_zald (X : Bd K G w0 own cc nL rt rm) (q0 : Nat) {a n : Nat} {f : Nat → Int32} (ha : w[q0]? = some (a, .inl (G.2 2, n, .inl f))) (hn : n < 2 ^ 31) {i : Int32} (j : Nat) (hi : i = nI j) (hj : j < n) (d : decode cc pc = .ok (.baload, 1)) (kk : Lb K G w0 Q nL (pc + 1) lv (.int (f j) :: st) w cells slots) : Lb K G w0 Q nL pc lv (.int i :: .ref a :: st) w cells slots := by
  intro ls H locs hl hP hD hS
  obtain ⟨h1, h2⟩ := nI_in1 hi hj hn
  refine va_zald X.x X.b X.g.1 hP q0 2 ha rfl h1 d ?_
  rw [h2]
  exact kk ls H locs hl hP hD hS
theorem b_iast (X : Bd K G w0 own cc nL rt rm) (q0 : Nat) {a n : Nat} {f : Nat → Int32} (ha : w[q0]? = some (a, .inl (G.2 0, n, .inl f))) (hn : n < 2 ^ 31) {i x : Int32} (j : Nat) (hi : i = nI j) (hj : j < n) {w' : va_W} (hw : w.set q0 (a, .inl (G.2 0, n, .inl (upd f j x))) = w') (d : decode cc pc = .ok (.iastore, 1)) (kk : Lb K G w0 Q nL (pc + 1) lv st w' cells slots) : Lb K G w0 Q nL pc lv (.int x :: .int i :: .ref a :: st) w cells slots := by
  intro ls H locs hl hP hD hS
  obtain ⟨h1, h2⟩ := nI_in1 hi hj hn
  subst hw
  refine va_iast X.x X.b X.g.1 hP hD hS q0 0 ha rfl h1 d ?_
  rw [h2]
  exact fun H1 locs1 hP1 hD1 hS1 => kk ls H1 locs1 hl hP1 hD1 hS1
theorem b_last (X : Bd K G w0 own cc nL rt rm) (q0 : Nat) {a n : Nat} {f : Nat → Int64} (ha : w[q0]? = some (a, .inl (G.2 1, n, .inr (.inl f)))) (hn : n < 2 ^ 31) {i : Int32} {x : Int64} (j : Nat) (hi : i = nI j) (hj : j < n) {w' : va_W} (hw : w.set q0 (a, .inl (G.2 1, n, .inr (.inl (vp_updL f j x)))) = w') (d : decode cc pc = .ok (.lastore, 1)) (kk : Lb K G w0 Q nL (pc + 1) lv st w' cells slots) : Lb K G w0 Q nL pc lv (.long x :: .int i :: .ref a :: st) w cells slots := by
  intro ls H locs hl hP hD hS
  obtain ⟨h1, h2⟩ := nI_in1 hi hj hn
  subst hw
  refine va_last X.x X.b X.g.1 hP hD hS q0 1 ha rfl h1 d ?_
  rw [h2]
  exact fun H1 locs1 hP1 hD1 hS1 => kk ls H1 locs1 hl hP1 hD1 hS1
theorem b_zast (X : Bd K G w0 own cc nL rt rm) (q0 : Nat) {a n : Nat} {f : Nat → Int32} (ha : w[q0]? = some (a, .inl (G.2 2, n, .inl f))) (hn : n < 2 ^ 31) {i x : Int32} (j : Nat) (hi : i = nI j) (hj : j < n) (hx : vp_nar .boolean x = x) {w' : va_W} (hw : w.set q0 (a, .inl (G.2 2, n, .inl (upd f j x))) = w') (d : decode cc pc = .ok (.bastore, 1)) (kk : Lb K G w0 Q nL (pc + 1) lv st w' cells slots) : Lb K G w0 Q nL pc lv (.int x :: .int i :: .ref a :: st) w cells slots := by
  intro ls H locs hl hP hD hS
  obtain ⟨h1, h2⟩ := nI_in1 hi hj hn
  subst hw
  refine va_zast X.x X.b X.g.1 hP hD hS q0 2 ha rfl h1 d ?_
  rw [h2, hx]
  exact fun H1 locs1 hP1 hD1 hS1 => kk ls H1 locs1 hl hP1 hD1 hS1
-- ends
theorem b_vret (X : Bd K G w0 own cc nL none rm) {post : PostT} (d : decode cc pc = .ok (.return_, 1)) (hp : post none w) : Lb K G w0 (Qe K G w0 post rm) nL pc lv [] w rm.cells rm.slots :=
  fun ls H locs hl hP hD hS => W.vret X.x X.b X.re (fun t ht hW => ⟨⟨none, w, rfl, hp, by rw [ht]; exact hP, hD⟩, hS.F ht⟩) hS.2.2 d X.lk
theorem b_iret (X : Bd K G w0 own cc nL (some .int) rm) {post : PostT} {v : Int32} (d : decode cc pc = .ok (.ireturn, 1)) (hp : post (some (.int v)) w) : Lb K G w0 (Qe K G w0 post rm) nL pc lv [.int v] w rm.cells rm.slots :=
  fun ls H locs hl hP hD hS => W.iret X.x X.b X.re (fun t ht hW => ⟨⟨_, w, rfl, hp, by rw [ht]; exact hP, hD⟩, hS.F ht⟩) hS.2.2 d X.lk
theorem b_lret (X : Bd K G w0 own cc nL (some .long) rm) {post : PostT} {v : Int64} (d : decode cc pc = .ok (.lreturn, 1)) (hp : post (some (.long v)) w) : Lb K G w0 (Qe K G w0 post rm) nL pc lv [.long v] w rm.cells rm.slots :=
  fun ls H locs hl hP hD hS => W.lret X.x X.b X.re (fun t ht hW => ⟨⟨_, w, rfl, hp, by rw [ht]; exact hP, hD⟩, hS.F ht⟩) hS.2.2 d X.lk
theorem b_zret (X : Bd K G w0 own cc nL (some .boolean) rm) {post : PostT} {v : Int32} (hz : narrow .boolean (.int v) = .int v) (d : decode cc pc = .ok (.ireturn, 1)) (hp : post (some (.int v)) w) : Lb K G w0 (Qe K G w0 post rm) nL pc lv [.int v] w rm.cells rm.slots :=
  fun ls H locs hl hP hD hS => W.zret X.x X.b X.re hz (fun t ht hW => ⟨⟨_, w, rfl, hp, by rw [ht]; exact hP, hD⟩, hS.F ht⟩) hS.2.2 d X.lk
-- calls: the callee's world is the whole world
theorem Pm.blind {av : List Value} {sz : Nat} : FrameBlind (va_Pc av (Pm G w sz)) := fun a U g mk q => by
  obtain ⟨q0, q1, qP, qD, qG, qF⟩ := q
  exact ⟨q0, q1, qP, qD, gf.same (s := U) (U := U.calling g mk a) rfl qG, sf_keep (s := U) (U := U.calling g mk a) (State.WarmedH.refl U) (fun _ _ h _ => h) qF⟩
theorem Bd.stay (X : Bd K G w0 own cc nL rt rm) {H : Heap} {locs : List Loc} (hS : va_S (va_A w0 (ks K).heap.size) (ks K).heap H locs) : ∀ (a : Nat) (cell : Cell), (ks K).heap[a]? = some cell → cell.vm.isStatics = true → H[a]? = some cell := fun a cell h1 h2 => by
  rw [hS.2.1 a (Array.getElem?_eq_some_iff.mp h1).1 (X.sa a cell h1 h2)]
  exact h1
theorem Pm.pre (X : Bd K G w0 own cc nL rt rm) {H : Heap} {A : Nat → Prop} {locs : List Loc} (hP : va_P G.1 classes w H) (hD : va_D A w) (hS : va_S (va_A w0 (ks K).heap.size) (ks K).heap H locs) : ∀ U : State, U.heap = H → (ks K).WarmedH U.vm → Pm G w H.size U :=
  fun U hU hW => ⟨by rw [hU], by rw [hU]; exact hP, hD.weaken (fun _ _ _ _ => trivial), gf.warm hW X.g, sf_keep hW (fun a cell h1 h2 => by rw [hU]; exact X.stay hS a cell h1 h2) X.sf⟩
theorem b_run {post' : PostT} {mc ms : Nat} {st0 rest : List Value} {av : Array Value}
    (run : ∀ (ls : Array Slot) (H : Heap) (locs : List Loc), lv_has ls nL lv → va_P G.1 classes w H → va_D (va_A w0 (ks K).heap.size) w → va_S (va_A w0 (ks K).heap.size) (ks K).heap H locs → va_Run (kp K) (kl K) (ke K) (kr K) (ks K) (km K) (ka K) (kb K) (kt K) (kc K) H locs cells slots mc ms (F0 (km K) pc ls st0) rest (Qm G w H.size post' av) (va_A w H.size))
    (k : ∀ (v : Option Value) (w' : va_W), post' v w' → Lb K G w0 Q nL (pc + 3) lv (v.toList ++ rest) w' (cells + mc) (slots + ms)) : Lb K G w0 Q nL pc lv st0 w cells slots := by
  intro ls H locs hl hP hD hS T hT Xs
  obtain ⟨v, st₀, t, T', L, h0, X', hL, e1, e2, ⟨⟨v', w', hv, hp, hP1, hD1⟩, hz, hk⟩, st⟩ := run ls H locs hl hP hD hS T hT Xs
  cases hv
  rw [h0] at hz hk
  have hF : ∀ q, va_A w H.size q → va_A w0 (ks K).heap.size q := fun q h => by
    rcases h with ⟨k, e, h⟩ | h
    · exact hD.2 k _ h
    · exact Or.inr (Nat.le_trans hS.1 h)
  obtain ⟨t2, a1, b1⟩ := k v w' hp ls T'.heap (locs ++ L) hl (by rw [e1]; exact hP1) (hD1.weaken (fun k q _ h => hF q.1 h))
    ⟨Nat.le_trans hS.1 (by rw [e1]; exact hz), fun q h1 h2 => by rw [e1, hk q (Nat.lt_of_lt_of_le h1 hS.1) (fun z => h2 (hF q z))]; exact hS.2.1 q h1 h2, fun q hq => by
      rcases List.mem_append.mp hq with h | h
      · exact hS.2.2 q h
      · exact hF _ (hL q h)⟩ T' rfl X'
  exact ⟨t2, st t2 a1, b1⟩
theorem Bd.fix (X : Bd K G w0 own cc nL rt rm) : CallFix (kp K) (km K) (kc K) cc nL (ks K) (ka K) WS own := ⟨X.x, X.b, X.ml, X.ow, X.ts⟩
theorem CF.b (X : Bd K G w0 own cc nL rt rm) {y : MethodName} {bytes : ByteArray} {maxL n index : Nat} {ret : Option FieldType} {rm' : Room} (C : CF y bytes maxL ret n) (ml : Cond.methodLink own index y ∈ WS) (hR : rm'.frames + 1 ≤ rm.frames ∧ 8 + (maxL + 11) + rm'.locals ≤ rm.locals) : CallB (kr K) (ks K) (ka K) own index y bytes maxL ret (.code y bytes maxL ret :: WS) rm' rm'.cells rm'.slots n :=
  callB_of n X.ts (fun w hw => by
    rcases List.mem_cons.mp hw with rfl | h
    · exact ⟨C.1, Or.inl rfl⟩
    · exact ⟨h, WS_good w h⟩) rfl rfl rfl (X.ts _ C.2.1) (X.ts _ ml) ⟨C.2.2.1.1, C.2.2.1.2, C.2.2.2⟩ (by rw [X.ro]; exact hR)
theorem CF.n (X : Bd K G w0 own cc nL rt rm) {y : MethodName} {bytes : ByteArray} {maxL n index : Nat} {host : String} {ret : Option FieldType} {rm' : Room} (C : CF y bytes maxL ret n) (ml : Cond.methodLinkNest own index y host ∈ NW) (hR : rm'.frames + 1 ≤ rm.frames ∧ 8 + (maxL + 11) + rm'.locals ≤ rm.locals) : va_CN (kr K) (ks K) (ka K) own index y host bytes maxL ret (.code y bytes maxL ret :: WS) rm' rm'.cells rm'.slots n :=
  va_cnB n X.ts (fun w hw => by
    rcases List.mem_cons.mp hw with rfl | h
    · exact ⟨C.1, Or.inl rfl⟩
    · exact ⟨h, WS_good w h⟩) rfl rfl rfl (X.g.2.1 _ ml) (X.ts _ C.2.1) ⟨C.2.2.1.1, C.2.2.1.2, C.2.2.2⟩ (by rw [X.ro]; exact hR)
section CALL
variable {y : MethodName} {bytes : ByteArray} {maxL n index b : Nat} {ret : Option FieldType} {rm' : Room} {As rest st0 : List Value} {post' : PostT} {host : String}
theorem b_callV (X : Bd K G w0 own cc nL rt rm) (C : CF y bytes maxL ret n) (hi : Cond.instanceMethod y ∈ WS ∧ Cond.selects y.cls y y ∈ WS) (ml : Cond.methodLink own index y ∈ WS) (ct : Ct y bytes maxL ret rm' G (.ref b :: As) w post') (q0 : Nat) {ci : Nat} {fs : List Value} {T : u_T} {N : Nat} (he : w[q0]? = some (b, .inr (ci, fs))) (hc : classes[ci]? = some (y.cls, T, N)) (hn : As.length = n) (hst : (rest.map fun v => v.category).sum ≤ 8) (hR : rm'.frames + 1 ≤ rm.frames ∧ 8 + (maxL + 11) + rm'.locals ≤ rm.locals) (hf : cells + rm'.cells ≤ rm.cells ∧ slots + rm'.slots ≤ rm.slots) (hs0 : st0 = As.reverse ++ .ref b :: rest) (d : decode cc pc = .ok (.invokevirtual index, 3))
    (k : ∀ (v : Option Value) (w' : va_W), post' v w' → Lb K G w0 Q nL (pc + 3) lv (v.toList ++ rest) w' (cells + rm'.cells) (slots + rm'.slots)) : Lb K G w0 Q nL pc lv st0 w cells slots := by
  refine b_run (rest := rest) (av := (Value.ref b :: As).toArray) (fun ls H locs hl hP hD hS => ?_) k
  subst hs0
  exact va_runV X.fix (ct (kl K) X.lok H.size) ⟨C.b X ml hR, X.ts _ hi.1, X.ts _ hi.2⟩ ⟨Pm.blind, va_recv X.g.1 hP hc he, fun U hU hW => ⟨rfl, Pm.pre X hP hD hS U hU hW⟩⟩ rfl hn hl.1 rfl (lv_room hst) d (by rw [X.ro]; exact hf)
theorem b_callVN (X : Bd K G w0 own cc nL rt rm) (C : CF y bytes maxL ret n) (hi : Cond.instanceMethod y ∈ WS ∧ Cond.selects y.cls y y ∈ WS) (ml : Cond.methodLinkNest own index y host ∈ NW) (ct : Ct y bytes maxL ret rm' G (.ref b :: As) w post') (q0 : Nat) {ci : Nat} {fs : List Value} {T : u_T} {N : Nat} (he : w[q0]? = some (b, .inr (ci, fs))) (hc : classes[ci]? = some (y.cls, T, N)) (hn : As.length = n) (hst : (rest.map fun v => v.category).sum ≤ 8) (hR : rm'.frames + 1 ≤ rm.frames ∧ 8 + (maxL + 11) + rm'.locals ≤ rm.locals) (hf : cells + rm'.cells ≤ rm.cells ∧ slots + rm'.slots ≤ rm.slots) (hs0 : st0 = As.reverse ++ .ref b :: rest) (d : decode cc pc = .ok (.invokevirtual index, 3))
    (k : ∀ (v : Option Value) (w' : va_W), post' v w' → Lb K G w0 Q nL (pc + 3) lv (v.toList ++ rest) w' (cells + rm'.cells) (slots + rm'.slots)) : Lb K G w0 Q nL pc lv st0 w cells slots := by
  refine b_run (rest := rest) (av := (Value.ref b :: As).toArray) (fun ls H locs hl hP hD hS => ?_) k
  subst hs0
  exact va_runVN X.fix (ct (kl K) X.lok H.size) ⟨C.n X ml hR, X.ts _ hi.1, X.ts _ hi.2⟩ ⟨Pm.blind, va_recv X.g.1 hP hc he, fun U hU hW => ⟨rfl, Pm.pre X hP hD hS U hU hW⟩⟩ rfl hn hl.1 rfl (lv_room hst) d (by rw [X.ro]; exact hf)
theorem b_callS (X : Bd K G w0 own cc nL rt rm) (C : CF y bytes maxL ret n) (hi : Cond.static y ∈ WS) (ml : Cond.methodLink own index y ∈ WS) (ct : Ct y bytes maxL ret rm' G As w post') (hn : As.length = n) (hst : (rest.map fun v => v.category).sum ≤ 8) (hR : rm'.frames + 1 ≤ rm.frames ∧ 8 + (maxL + 11) + rm'.locals ≤ rm.locals) (hf : cells + rm'.cells ≤ rm.cells ∧ slots + rm'.slots ≤ rm.slots) (hs0 : st0 = As.reverse ++ rest) (d : decode cc pc = .ok (.invokestatic index, 3))
    (k : ∀ (v : Option Value) (w' : va_W), post' v w' → Lb K G w0 Q nL (pc + 3) lv (v.toList ++ rest) w' (cells + rm'.cells) (slots + rm'.slots)) : Lb K G w0 Q nL pc lv st0 w cells slots := by
  refine b_run (rest := rest) (av := As.toArray) (fun ls H locs hl hP hD hS => ?_) k
  subst hs0
  exact va_runS X.fix (ct (kl K) X.lok H.size) ⟨C.b X ml hR, X.ts _ hi⟩ ⟨Pm.blind, fun U hU hW => ⟨rfl, Pm.pre X hP hD hS U hU hW⟩⟩ rfl hn hl.1 rfl (lv_room hst) d (by rw [X.ro]; exact hf)
theorem b_callSN (X : Bd K G w0 own cc nL rt rm) (C : CF y bytes maxL ret n) (hi : Cond.static y ∈ WS) (ml : Cond.methodLinkNest own index y host ∈ NW) (ct : Ct y bytes maxL ret rm' G As w post') (hn : As.length = n) (hst : (rest.map fun v => v.category).sum ≤ 8) (hR : rm'.frames + 1 ≤ rm.frames ∧ 8 + (maxL + 11) + rm'.locals ≤ rm.locals) (hf : cells + rm'.cells ≤ rm.cells ∧ slots + rm'.slots ≤ rm.slots) (hs0 : st0 = As.reverse ++ rest) (d : decode cc pc = .ok (.invokestatic index, 3))
    (k : ∀ (v : Option Value) (w' : va_W), post' v w' → Lb K G w0 Q nL (pc + 3) lv (v.toList ++ rest) w' (cells + rm'.cells) (slots + rm'.slots)) : Lb K G w0 Q nL pc lv st0 w cells slots := by
  refine b_run (rest := rest) (av := As.toArray) (fun ls H locs hl hP hD hS => ?_) k
  subst hs0
  exact va_runSN X.fix (ct (kl K) X.lok H.size) ⟨C.n X ml hR, X.ts _ hi, trivial⟩ ⟨Pm.blind, fun U hU hW => ⟨rfl, Pm.pre X hP hD hS U hU hW⟩⟩ rfl hn hl.1 rfl (lv_room hst) d (by rw [X.ro]; exact hf)
end CALL
end BASE
