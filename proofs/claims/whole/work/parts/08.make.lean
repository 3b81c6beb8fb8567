/-! rows for constructors: new cells, final fields, calls whose world is a part of the caller's -/
set_option maxRecDepth 20000 in
theorem kO_inst : Cond.instanceMethod objectInit ∈ WS := ws_t 26 rfl rfl
set_option maxRecDepth 20000 in
theorem kO_code : Cond.code objectInit ⟨#[0xb1]⟩ 1 none ∈ WS := ws_t 27 (by decide +kernel) rfl
set_option maxRecDepth 20000 in
theorem kA_int : Cond.arrayClass (newarray.typeOf .int) ∈ WS := ws_t 47 rfl rfl
set_option maxRecDepth 20000 in
theorem kA_long : Cond.arrayClass (newarray.typeOf .long) ∈ WS := ws_t 82 rfl rfl
set_option maxRecDepth 20000 in
theorem kA_bool : Cond.arrayClass (newarray.typeOf .boolean) ∈ WS := ws_t 977 rfl rfl
theorem Ct.ofI {y : MethodName} {av : List Value} {post : PostT} {G : GG} {w : va_W} {cc : ByteArray} {nL : Nat} {rt : Option FieldType} {rm : Room} (hy : plainName y.cls = true) (hsl : (lg_sl av).length ≤ nL) (hin : y.name = "<init>")
    (h : ∀ K : KX, Bd K G w y.cls cc nL rt rm → (kt K).name = "<init>" → Lb K G w (Qe K G w post rm) nL 0 (lv_args 0 av) [] w 0 0) : Ct y cc nL rt rm G av w post := by
  intro l hlok sz
  refine Met.ofW (cc := cc) (maxL := nL) (ret := rt) hy rfl ?_
  intro p e s m args below meth c s₁ B hml hv
  obtain ⟨rfl, hsz, hP, hD0, hG, hF⟩ := hv
  subst hsz
  have hts := atoms_spec (ws := .code y cc nL rt :: WS) B.pre
  have hl := lv_entry av (n := nL) hsl
  have hnm : meth.name = "<init>" := ((name_of_methodNamed B.named B.method).1).trans hin
  rw [lg_entry_eq]
  exact h (p, l, e, (headSpec (.code y cc nL rt :: WS) rm).room, s, m, _, below, meth, c) ⟨B.exec, B.bytes, hml, findClass_of_methodNamed B.named, fun w hw => hts w (List.mem_cons_of_mem _ hw), hG, B.returns, B.notSynchronized, rfl, hF, st_apart hP, hlok⟩ hnm _ _ _ hl hP hD0.self va_S.rf
section R08
variable {K : KX} {G : GG} {w0 w : va_W} {Q : State → Prop} {own : String} {cc : ByteArray} {nL pc cells slots : Nat} {rt : Option FieldType} {rm : Room} {lv : List (Nat × Value)} {st : List Value}
theorem Bd.hA (_ : Bd K G w0 own cc nL rt rm) : ∀ q, (ks K).heap.size ≤ q → va_A w0 (ks K).heap.size q := fun _ h => Or.inr h
theorem b_objInit (X : Bd K G w0 own cc nL rt rm) {idx a : Nat} (ml : Cond.methodLink own idx objectInit ∈ WS) (hR : 1 ≤ rm.frames ∧ (st.map fun v => v.category).sum + 12 ≤ rm.locals) (d : decode cc pc = .ok (.invokespecial idx, 3)) (k : Lb K G w0 Q nL (pc + 3) lv st w cells slots) : Lb K G w0 Q nL pc lv (.ref a :: st) w cells slots :=
  fun ls H locs hl hP hD hS => W.objInit X.x X.b X.ow (X.ts _ ml) (X.ts _ kO_inst) (X.ts _ kO_code) rfl (by rw [X.ml]; exact hl.1) rfl d (by rw [X.ro]; exact hR.1) (by rw [X.ro]; show 2 * 0 + _ + 12 ≤ _; have := hR.2; omega) (k ls H locs hl hP hD hS)
theorem b_new (X : Bd K G w0 own cc nL rt rm) {C : String} {T : u_T} {N ci index : Nat} (hin : ∀ w ∈ u_ws C T N, w ∈ WS) (ty : Nat → FieldType) (hty : ∀ k, k < N → parseFieldDescriptor (T k).2.2.1 = some (ty k)) (hcl : Cond.classLink own index C ∈ WS) (hinst : Cond.instantiable C N ∈ WS) (hini : Cond.initialized C ∈ WS) (hc : classes[ci]? = some (C, T, N)) {fs : List Value} (hfs : ∀ j, j < N → defaultValue (ty j) = vp_V fs j) (hcells : cells + 1 ≤ rm.cells) (hslots : slots + N ≤ rm.slots) (d : decode cc pc = .ok (.new index, 3))
    (k : ∀ q : Nat, Lb K G w0 Q nL (pc + 3) lv (.ref q :: st) (w ++ [(q, .inr (ci, fs))]) (cells + 1) (slots + N)) : Lb K G w0 Q nL pc lv st w cells slots :=
  fun ls H locs hl hP hD hS => va_new X.x X.b X.ts hin ty hty X.ow (X.ts _ hcl) (X.ts _ hinst) (X.ts _ hini) X.g.1 hP hD hS X.hA hc hfs (by rw [X.ro]; exact hcells) (by rw [X.ro]; exact hslots) d (fun q H1 hP1 hD1 hS1 => k q ls H1 locs hl hP1 hD1 hS1)
theorem K_last {D : va_G} {cl : List vw_C} {tys : List (ClassId × FieldType)} {cA : ClassId} {ty : FieldType} {U : State} (h : va_K D cl (tys ++ [(cA, ty)]) U) : va_RA U cA ty := (h.2 tys.length (cA, ty) (by simp)).2
theorem b_newi (X : Bd K G w0 own cc nL rt rm) {n : Int32} (N : Nat) (hn : n = nI N) (hN : N < 1000000) (hcells : cells + 1 ≤ rm.cells) (hslots : slots + N ≤ rm.slots) (d : decode cc pc = .ok (.newarray .int, 2))
    (k : ∀ q : Nat, Lb K G w0 Q nL (pc + 2) lv (.ref q :: st) (w ++ [(q, .inl (G.2 0, N, .inl (fun _ => 0)))]) (cells + 1) (slots + N)) : Lb K G w0 Q nL pc lv (.int n :: st) w cells slots := by
  intro ls H locs hl hP hD hS
  subst hn
  refine va_newa (ty := .int) (a0 := (N, .inl (fun _ => 0))) X.x X.b (X.ts _ kA_int) rfl X.g.1 hP hD hS X.hA (fun cA => rfl) (nI_pos (by omega)) (nI_clamp (by omega)) (by show N * 4 ≤ _; omega) (by rw [X.ro]; exact hcells) (by rw [X.ro]; exact hslots) d (fun q cA H1 hK1 hP1 hD1 hS1 => ?_)
  have e1 : (ks K).vm.findClass ("[" ++ FieldType.int.toString) = some cA := K_last hK1
  have e2 : (ks K).vm.findClass ("[" ++ FieldType.int.toString) = some (G.2 0) := (X.g.1.2 0 _ rfl).2
  cases e1.symm.trans e2
  exact k q ls H1 locs hl hP1 hD1 hS1
theorem b_newl (X : Bd K G w0 own cc nL rt rm) {n : Int32} (N : Nat) (hn : n = nI N) (hN : N < 1000000) (hcells : cells + 1 ≤ rm.cells) (hslots : slots + N ≤ rm.slots) (d : decode cc pc = .ok (.newarray .long, 2))
    (k : ∀ q : Nat, Lb K G w0 Q nL (pc + 2) lv (.ref q :: st) (w ++ [(q, .inl (G.2 1, N, .inr (.inl (fun _ => 0))))]) (cells + 1) (slots + N)) : Lb K G w0 Q nL pc lv (.int n :: st) w cells slots := by
  intro ls H locs hl hP hD hS
  subst hn
  refine va_newa (ty := .long) (a0 := (N, .inr (.inl (fun _ => 0)))) X.x X.b (X.ts _ kA_long) rfl X.g.1 hP hD hS X.hA (fun cA => rfl) (nI_pos (by omega)) (nI_clamp (by omega)) (by show N * 8 ≤ _; omega) (by rw [X.ro]; exact hcells) (by rw [X.ro]; exact hslots) d (fun q cA H1 hK1 hP1 hD1 hS1 => ?_)
  have e1 : (ks K).vm.findClass ("[" ++ FieldType.long.toString) = some cA := K_last hK1
  have e2 : (ks K).vm.findClass ("[" ++ FieldType.long.toString) = some (G.2 1) := (X.g.1.2 1 _ rfl).2
  cases e1.symm.trans e2
  exact k q ls H1 locs hl hP1 hD1 hS1
theorem b_newz (X : Bd K G w0 own cc nL rt rm) {n : Int32} (N : Nat) (hn : n = nI N) (hN : N < 1000000) (hcells : cells + 1 ≤ rm.cells) (hslots : slots + N ≤ rm.slots) (d : decode cc pc = .ok (.newarray .boolean, 2))
    (k : ∀ q : Nat, Lb K G w0 Q nL (pc + 2) lv (.ref q :: st) (w ++ [(q, .inl (G.2 2, N, .inl (fun _ => 0)))]) (cells + 1) (slots + N)) : Lb K G w0 Q nL pc lv (.int n :: st) w cells slots := by
  intro ls H locs hl hP hD hS
  subst hn
  refine va_newa (ty := .boolean) (a0 := (N, .inl (fun _ => 0))) X.x X.b (X.ts _ kA_bool) rfl X.g.1 hP hD hS X.hA (fun cA => rfl) (nI_pos (by omega)) (nI_clamp (by omega)) (by show N * 1 ≤ _; omega) (by rw [X.ro]; exact hcells) (by rw [X.ro]; exact hslots) d (fun q cA H1 hK1 hP1 hD1 hS1 => ?_)
  have e1 : (ks K).vm.findClass ("[" ++ FieldType.boolean.toString) = some cA := K_last hK1
  have e2 : (ks K).vm.findClass ("[" ++ FieldType.boolean.toString) = some (G.2 2) := (X.g.1.2 2 _ rfl).2
  cases e1.symm.trans e2
  exact k q ls H1 locs hl hP1 hD1 hS1
theorem b_newp (X : Bd K G w0 own cc nL rt rm) {n : Int32} {index : Nat} (N : Nat) (hn : n = nI N) (hN : N < 1000000) (hcl : Cond.classLink own index "FirstTrees$Pending" ∈ WS) (hcells : cells + 1 ≤ rm.cells) (hslots : slots + N ≤ rm.slots) (d : decode cc pc = .ok (.anewarray index, 3))
    (k : ∀ q : Nat, Lb K G w0 Q nL (pc + 3) lv (.ref q :: st) (w ++ [(q, .inl (G.2 3, N, .inr (.inr (.inr (.inr (fun _ => none))))))]) (cells + 1) (slots + N)) : Lb K G w0 Q nL pc lv (.int n :: st) w cells slots := by
  intro ls H locs hl hP hD hS
  subst hn
  refine va_newq X.x X.b X.ow (X.ts _ hcl) X.g.2.2.2 X.g.1 hP hD hS X.hA (nI_pos (by omega)) (nI_clamp (by omega)) (by omega) (by rw [X.ro]; exact hcells) (by rw [X.ro]; exact hslots) d (fun q cA H1 hK1 hP1 hD1 hS1 => ?_)
  obtain ⟨_, _, _, _, _, e1⟩ := K_last hK1
  obtain ⟨_, _, _, _, _, e2⟩ := (X.g.1.2 3 _ rfl).2
  cases e1.symm.trans e2
  exact k q ls H1 locs hl hP1 hD1 hS1
theorem b_putF (X : Bd K G w0 own cc nL rt rm) (hnm : (kt K).name = "<init>") {C : String} {T : u_T} {N ci index k a : Nat} {ty : FieldType} (F : FL own index ci C T N k) (ty0 : Nat → FieldType) (hty : ∀ k, k < N → parseFieldDescriptor (T k).2.2.1 = some (ty0 k)) (hm : ∀ a, a < N → ∀ b, b < N → a ≠ b → (T a).2.1 ≠ (T b).2.1) (hfin : (T k).2.2.2 = true) (hd : parseFieldDescriptor (T k).2.2.1 = some ty) (hdecl : (T k).1 = own) (q0 : Nat) {fs : List Value} (he : w[q0]? = some (a, .inr (ci, fs))) {v : Value} (hn : narrow ty v = v) (hfit : fits ty v = true) (hlen : k < fs.length) {w' : va_W} (hw : w.set q0 (a, .inr (ci, fs.set k v)) = w') (d : decode cc pc = .ok (.putfield index, 3)) (kk : Lb K G w0 Q nL (pc + 3) lv st w' cells slots) : Lb K G w0 Q nL pc lv (v :: .ref a :: st) w cells slots := by
  intro ls H locs hl hP hD hS
  subst hw
  exact va_putF X.x X.b X.ts F.1 ty0 hty hm X.ow X.g.1 hP hD hS q0 he F.2.1 k F.2.2.1 (X.ts _ F.2.2.2) (fun _ h => h) hfin hnm hdecl hd hn hfit hlen d (fun H1 locs1 hP1 hD1 hS1 => kk ls H1 locs1 hl hP1 hD1 hS1)
/-- a call whose world wc is a part of the caller's: what comes back stands behind the rest wr -/
theorem b_runP {wc wr : va_W} {post' : PostT} {mc ms : Nat} {st0 rest : List Value} {av : Array Value} (isC isR : List Nat) (hC : isC.map (fun i => w[i]?) = wc.map some) (hR : isR.map (fun i => w[i]?) = wr.map some) (hn : va_nd isR = true) (hnc : va_nd isC = true) (hdis : ∀ i ∈ isR, i ∉ isC)
    (run : ∀ (ls : Array Slot) (H : Heap) (locs : List Loc), lv_has ls nL lv → va_P G.1 classes wc H → va_D (va_A w0 (ks K).heap.size) wc → va_S (va_A w0 (ks K).heap.size) (ks K).heap H locs → va_Run (kp K) (kl K) (ke K) (kr K) (ks K) (km K) (ka K) (kb K) (kt K) (kc K) H locs cells slots mc ms (F0 (km K) pc ls st0) rest (Qm G wc H.size post' av) (va_A wc H.size))
    (k : ∀ (v : Option Value) (w' : va_W), post' v w' → Lb K G w0 Q nL (pc + 3) lv (v.toList ++ rest) (wr ++ w') (cells + mc) (slots + ms)) : Lb K G w0 Q nL pc lv st0 w cells slots := by
  intro ls H locs hl hP hD hS T hT Xs
  have hPc : va_P G.1 classes wc H := fun i q hq => by
    have h1 : (isC.map (fun i => w[i]?))[i]? = some (some q) := by rw [hC, List.getElem?_map, hq]; rfl
    rw [List.getElem?_map] at h1
    cases hi : isC[i]? with
    | none => rw [hi] at h1; cases h1
    | some j => rw [hi] at h1; exact hP j q (Option.some.inj h1)
  have hDc := hD.sub isC hnc hC
  obtain ⟨v, st₀, t, T', L, h0, X', hL, e1, e2, ⟨⟨v', w', hv, hp, hP1, hD1⟩, hz, hk⟩, st⟩ := run ls H locs hl hPc hDc hS T hT Xs
  cases hv
  rw [h0] at hz hk
  have hF : ∀ q, va_A wc H.size q → va_A w0 (ks K).heap.size q := fun q h => by
    rcases h with ⟨k, e, h⟩ | h
    · exact hDc.2 k _ h
    · exact Or.inr (Nat.le_trans hS.1 h)
  obtain ⟨hPj, hDj⟩ := va_join hP hD isC isR hC hR hn hdis (fun q h1 h2 => hk q h1 h2) hF hP1 hD1
  obtain ⟨t2, a1, b1⟩ := k v w' hp ls T'.heap (locs ++ L) hl (by rw [e1]; exact hPj) hDj
    ⟨Nat.le_trans hS.1 (by rw [e1]; exact hz), fun q h1 h2 => by rw [e1, hk q (Nat.lt_of_lt_of_le h1 hS.1) (fun z => h2 (hF q z))]; exact hS.2.1 q h1 h2, fun q hq => by
      rcases List.mem_append.mp hq with h | h
      · exact hS.2.2 q h
      · exact hF _ (hL q h)⟩ T' rfl X'
  exact ⟨t2, st t2 a1, b1⟩
section CALLI
variable {y : MethodName} {bytes : ByteArray} {maxL n index b : Nat} {rm' : Room} {As rest st0 : List Value} {post' : PostT} {host : String} {wc wr : va_W}
theorem b_callI (X : Bd K G w0 own cc nL rt rm) (C : CF y bytes maxL none n) (hi : Cond.instanceMethod y ∈ WS) (hy : y.name = "<init>") (ml : Cond.methodLink own index y ∈ WS) (ct : Ct y bytes maxL none rm' G (.ref b :: As) wc post') (isC isR : List Nat) (hC : isC.map (fun i => w[i]?) = wc.map some) (hR : isR.map (fun i => w[i]?) = wr.map some) (hnn : va_nd isR = true) (hnc : va_nd isC = true) (hdis : ∀ i ∈ isR, i ∉ isC) (hn : As.length = n) (hst : (rest.map fun v => v.category).sum ≤ 8) (hr : rm'.frames + 1 ≤ rm.frames ∧ 8 + (maxL + 11) + rm'.locals ≤ rm.locals) (hf : cells + rm'.cells ≤ rm.cells ∧ slots + rm'.slots ≤ rm.slots) (hs0 : st0 = As.reverse ++ .ref b :: rest) (d : decode cc pc = .ok (.invokespecial index, 3))
    (k : ∀ (v : Option Value) (w' : va_W), post' v w' → Lb K G w0 Q nL (pc + 3) lv (v.toList ++ rest) (wr ++ w') (cells + rm'.cells) (slots + rm'.slots)) : Lb K G w0 Q nL pc lv st0 w cells slots := by
  refine b_runP (rest := rest) (av := (Value.ref b :: As).toArray) isC isR hC hR hnn hnc hdis (fun ls H locs hl hP hD hS => ?_) k
  subst hs0
  exact va_runI X.fix (ct (kl K) X.lok H.size) ⟨C.b X ml hr, hy, X.ts _ hi⟩ ⟨Pm.blind, fun U hU hW => ⟨rfl, Pm.pre X hP hD hS U hU hW⟩⟩ rfl hn hl.1 rfl (lv_room hst) d (by rw [X.ro]; exact hf)
theorem b_callIN (X : Bd K G w0 own cc nL rt rm) (C : CF y bytes maxL none n) (hi : Cond.instanceMethod y ∈ WS) (hy : y.name = "<init>") (ml : Cond.methodLinkNest own index y host ∈ NW) (ct : Ct y bytes maxL none rm' G (.ref b :: As) wc post') (isC isR : List Nat) (hC : isC.map (fun i => w[i]?) = wc.map some) (hR : isR.map (fun i => w[i]?) = wr.map some) (hnn : va_nd isR = true) (hnc : va_nd isC = true) (hdis : ∀ i ∈ isR, i ∉ isC) (hn : As.length = n) (hst : (rest.map fun v => v.category).sum ≤ 8) (hr : rm'.frames + 1 ≤ rm.frames ∧ 8 + (maxL + 11) + rm'.locals ≤ rm.locals) (hf : cells + rm'.cells ≤ rm.cells ∧ slots + rm'.slots ≤ rm.slots) (hs0 : st0 = As.reverse ++ .ref b :: rest) (d : decode cc pc = .ok (.invokespecial index, 3))
    (k : ∀ (v : Option Value) (w' : va_W), post' v w' → Lb K G w0 Q nL (pc + 3) lv (v.toList ++ rest) (wr ++ w') (cells + rm'.cells) (slots + rm'.slots)) : Lb K G w0 Q nL pc lv st0 w cells slots := by
  refine b_runP (rest := rest) (av := (Value.ref b :: As).toArray) isC isR hC hR hnn hnc hdis (fun ls H locs hl hP hD hS => ?_) k
  subst hs0
  exact va_runIN X.fix (ct (kl K) X.lok H.size) ⟨C.n X ml hr, hy, X.ts _ hi⟩ ⟨Pm.blind, fun U hU hW => ⟨rfl, Pm.pre X hP hD hS U hU hW⟩⟩ rfl hn hl.1 rfl (lv_room hst) d (by rw [X.ro]; exact hf)
end CALLI
end R08
