/-! a callee that throws: out of a method without handlers -/
section TH2
variable {p : Program} {l : Launch} {e : Env} {R : Room} {s : State} {m : MethodId} {args : Array Value} {below : List Frame} {meth : Method} {c : Code} {T : State} {locs : List Loc} {cells slots : Nat}
theorem th_call (X : Stand p l e R s m args below meth c T locs cells slots) {y : MethodName} {ws : List Cond} {rm' : Room} {Pc : Array Value → State → Prop} {Qc : Array Value → State → Outcome → State → Prop} {free : Addr → Prop} {bytes : ByteArray} {maxL : Nat} {ret : Option FieldType}
    (hM : MetFree l y (headSpec ws rm') Pc (fun _ _ _ _ _ => True) (fun a st o t => (Qc a st o t ∧ ∃ x, o = .threw x) ∧ st.WarmedH t.vm ∧ ∃ L, st.sameButNew ({ t with vm := st.vm } : State) L rm'.cells rm'.slots ∧ ∀ q ∈ L, free q.base))
    {g : JFrame} {ig : Instr} {mk : MethodId} {a : Array Value} (hg : g.method = m) (hsize : g.locals.size = c.maxLocals) (hdg : decode c.code g.pc = .ok (ig, 3)) (hW : 2 * g.monitorRoom + (g.stack.map fun v => v.category).sum ≤ 8) (hn : T.methodNamed? y = some mk)
    (hws : ∀ w ∈ ws, w.before a T = true) (hcode : (Cond.code y bytes maxL ret).before a T = true) (hini : (Cond.initialized y.cls).before a T = true)
    (hR : rm'.frames + 1 ≤ R.frames ∧ 8 + (maxL + 11) + rm'.locals ≤ R.locals) (hf : cells + rm'.cells ≤ R.cells ∧ slots + rm'.slots ≤ R.slots) (hPc : Pc a (T.calling g mk a)) :
    ∃ (x : Addr) (T' t : State) (L : List Loc), Stand p l e R s m args below meth c T' (locs ++ L) (cells + rm'.cells) (slots + rm'.slots) ∧ (∀ q ∈ L, free q.base) ∧ T'.heap = t.heap ∧ T'.vm = t.vm ∧ Qc a (T.calling g mk a) (.threw x) t ∧ T.WarmedH T'.vm ∧
      Steps p.tables e below (doInvoke e (T.setTop g) [] mk a).1 ((T'.setTop g).pushFrame (.throwing x)) := by
  obtain ⟨methY, cY, hmY, hcY, -, hlY, -, -, -, -⟩ := Cond.code_spec hn hcode
  obtain ⟨kY, hkY, -⟩ := className_of_methodNamed hn
  have hinitY : kY.init = .initialized := Cond.initialized_spec (findClass_of_methodNamed hn) hkY hini
  have h : At T g.method c below := by rw [hg]; exact X.here
  have happ : (headSpec ws rm').appliesLoose y e.platform (T.calling g mk a) = true :=
    Spec.appliesLoose_calling (g := g) h hdg hn hkY hinitY
      (X.room_calling (g := g) (R' := rm') hsize hmY hcY hR.1 (by rw [hlY]; omega) hf.1 hf.2) (atoms_intro hws)
  obtain ⟨mid, hmid⟩ := h.above
  have hfr : (T.setTop g).frames = (.java g :: mid) ++ below := by rw [State.frames_setTop' g h.top, hmid]; rfl
  obtain ⟨o, s₂, hsteps, -, hend, ⟨hq, x, rfl⟩, hW₂, L, hsame, hL⟩ := Steps.callFree hM p X.admits X.cas X.clock (acts := []) hfr happ hPc trivial
  have htop : (T.setTop g).frames = .java g :: below := by rw [State.frames_setTop' g h.top, X.tail]
  rw [htop] at hend
  obtain ⟨T', X', hWT, hsT, ht⟩ := X.outOfThrown hg hend hW₂ hsame
  refine ⟨x, T', s₂, L, X', hL, ?_, ?_, hq, hWT, ?_⟩
  · rw [ht, throwing_heap]
  · rw [ht, throwing_vm]
  · rw [← ht]; exact hsteps
end TH2
section R11
variable {K : KX} {G : GG} {w0 w : va_W} {Q : State → Prop} {own : String} {cc : ByteArray} {nL pc cells slots : Nat} {rt : Option FieldType} {rm : Room} {lv : List (Nat × Value)} {st : List Value}
variable {y : MethodName} {bytes : ByteArray} {maxL n index b : Nat} {ret : Option FieldType} {rm' : Room} {As rest st0 : List Value} {cls : String} {post' : va_W → Prop}
/-- where the callee has thrown: the note lies over the frame; the heap holds the exception and the world -/
def Lz (K : KX) (G : GG) (w0 : va_W) (Q : State → Prop) (nL pc : Nat) (lv : List (Nat × Value)) (st : List Value) (cls : String) (w : va_W) (cells slots : Nat) : Prop :=
  ∀ (ls : Array Slot) (H : Heap) (locs : List Loc) (x : Addr) (cell : Cell), lv_has ls nL lv → va_P G.1 classes w H → va_D (va_A w0 (ks K).heap.size) w → va_S (va_A w0 (ks K).heap.size) (ks K).heap H locs → H[x]? = some cell → cell.vm.isStatics = false → (ks K).vm.findClass cls = some cell.cls →
    ∀ T : State, T.heap = H → Stand (kp K) (kl K) (ke K) (kr K) (ks K) (km K) (ka K) (kb K) (kt K) (kc K) T locs cells slots → ∃ t, Steps (kp K).tables (ke K) (kb K) ((T.setTop (F0 (km K) pc ls st)).pushFrame (.throwing x)) t ∧ Q t
theorem b_callT (X : Bd K G w0 own cc nL rt rm) (C : CF y bytes maxL ret n) (hi : Cond.instanceMethod y ∈ WS ∧ Cond.selects y.cls y y ∈ WS) (ml : Cond.methodLink own index y ∈ WS) (ct : CtT y bytes maxL ret rm' G (.ref b :: As) w cls post') (q0 : Nat) {ci : Nat} {fs : List Value} {T0 : u_T} {N : Nat} (he : w[q0]? = some (b, .inr (ci, fs))) (hc : classes[ci]? = some (y.cls, T0, N)) (hn : As.length = n) (hst : (rest.map fun v => v.category).sum ≤ 8) (hR : rm'.frames + 1 ≤ rm.frames ∧ 8 + (maxL + 11) + rm'.locals ≤ rm.locals) (hf : cells + rm'.cells ≤ rm.cells ∧ slots + rm'.slots ≤ rm.slots) (hs0 : st0 = As.reverse ++ .ref b :: rest) (d : decode cc pc = .ok (.invokevirtual index, 3))
    (k : ∀ w', post' w' → Lz K G w0 Q nL pc lv rest cls w' (cells + rm'.cells) (slots + rm'.slots)) : Lb K G w0 Q nL pc lv st0 w cells slots := by
  intro ls H locs hl hP hD hS T hT Y
  subst hs0
  obtain ⟨cellB, hcB, hoB, hclB⟩ := va_recv X.g.1 hP hc he
  obtain ⟨mk, methM, hnamed, hmethM, hstM, habM⟩ := Cond.instanceMethod_spec (X.ts _ hi.1)
  obtain ⟨methM', cM, hmethM', -, -, -, -, -, -, hsigM⟩ := Cond.code_spec hnamed (X.ts _ C.1)
  cases hmethM.symm.trans hmethM'
  obtain ⟨c2, r2, m2, q1, q2, q3, q4, kP, hkP, hkPi⟩ := Cond.selects_spec (X.ts _ hi.2)
  cases hclB.symm.trans q1
  cases (State.methodFound?_of_named hnamed C.2.2.1).symm.trans q2
  cases hnamed.symm.trans q3
  have hselP : selectMethod (ke K).platform (ks K).vm cellB.cls mk = .method mk := by rw [Launch.admits_selectMethod Y.admits]; exact q4
  have hlen : As.length = methM.sig.parameters.length := by
    have h2 := C.2.2.2
    rw [hsigM] at h2
    rw [hn]; exact (Option.some.inj h2).symm
  obtain ⟨vm₁, X₁, hstep₁⟩ := Y.invokevirtual X.x X.ow (X.ts _ ml) hnamed hmethM hstM hkP hkPi C.2.2.1 (a := b) (cell := cellB) (by rw [hT]; exact hcB)
    (fun z h => by rw [h] at hoB; cases hoB) hselP hmethM habM hkP hkPi (g := F0 (km K) pc ls (As.reverse ++ .ref b :: rest)) rfl (argsL := As) (rest := rest) hlen rfl (by rw [X.b]; exact d)
  have hWm : (ks K).WarmedH (T.setVm vm₁).vm := X₁.warmed
  have hM : MetFree (kl K) y (headSpec (.code y bytes maxL ret :: WS) rm') (va_Pc (.ref b :: As) (Pm G w H.size)) (fun _ _ _ _ _ => True) (fun a st o t => (Qt G w H.size cls post' a st o t ∧ ∃ x, o = .threw x) ∧ st.WarmedH t.vm ∧ ∃ L, st.sameButNew ({ t with vm := st.vm } : State) L rm'.cells rm'.slots ∧ ∀ q ∈ L, va_A w H.size q.base) := by
    intro p e ha hcas hck s m args below hfr happ hpp _
    obtain ⟨k1, o, h1, h2, h3, h4, h5⟩ := ct (kl K) X.lok H.size p e ha hcas hck s m args below hfr happ hpp trivial
    have h6 := h4
    obtain ⟨⟨x, w', cell, hox, -⟩, -⟩ := h6
    exact ⟨k1, o, h1, h2, h3, ⟨h4, x, hox⟩, h5⟩
  have hwd : ∀ w ∈ (.code y bytes maxL ret :: WS : List Cond), w.before (Value.ref b :: As).toArray (T.setVm vm₁) = true := fun w hw => by
    rcases List.mem_cons.mp hw with rfl | h
    · exact word_at hWm (Or.inl rfl) (X.ts _ C.1)
    · exact word_at hWm (WS_good w h) (X.ts w h)
  obtain ⟨x, T', t, L, X', hL, e1, e2, hq, hWT, hsteps⟩ := th_call X₁ hM (g := F0 (km K) pc ls rest) (ig := .invokevirtual index) (mk := mk) (a := (Value.ref b :: As).toArray) (bytes := bytes) (maxL := maxL) (ret := ret) rfl (by rw [X.ml]; exact hl.1) (by rw [X.b]; exact d) (lv_room hst) (X₁.named hnamed) hwd (hwd _ List.mem_cons_self) (word_at hWm (WS_good _ C.2.1) (X.ts _ C.2.1)) (by rw [X.ro]; exact hR) (by rw [X.ro]; exact hf)
    (Pm.blind _ _ _ _ ⟨rfl, Pm.pre X hP hD hS (T.setVm vm₁) hT hWm⟩)
  obtain ⟨⟨x2, w', cell, hox, hpw, hP1, hD1, hxc, hxs, hxf⟩, hz, hk⟩ := hq
  cases hox
  have h0 : ((T.setVm vm₁).calling (F0 (km K) pc ls rest) mk (Value.ref b :: As).toArray).heap = H := hT
  rw [h0] at hz hk
  have hF : ∀ q, va_A w H.size q → va_A w0 (ks K).heap.size q := fun q h => by
    rcases h with ⟨k, e, h⟩ | h
    · exact hD.2 k _ h
    · exact Or.inr (Nat.le_trans hS.1 h)
  have hfc : (ks K).vm.findClass cls = some cell.cls := by
    rw [← hWm.alike.findClass]; exact hxf
  obtain ⟨t2, a1, b1⟩ := k w' hpw ls T'.heap (locs ++ L) x cell hl (by rw [e1]; exact hP1) (hD1.weaken (fun k q _ h => hF q.1 h))
    ⟨Nat.le_trans hS.1 (by rw [e1]; exact hz), fun q h1 h2 => by rw [e1, hk q (Nat.lt_of_lt_of_le h1 hS.1) (fun z => h2 (hF q z))]; exact hS.2.1 q h1 h2, fun q hq => by
      rcases List.mem_append.mp hq with h | h
      · exact hS.2.2 q h
      · exact hF _ (hL q h)⟩ (by rw [e1]; exact hxc) hxs hfc T' rfl X'
  exact ⟨t2, hstep₁ _ (fun acts => by rw [doInvoke_state]; exact hsteps.trans a1), b1⟩
/-- out of the method -/
theorem b_out (X : Bd K G w0 own cc nL rt rm) (hex : (kc K).exceptionTable.toList = []) {post : va_W → Prop} (hp : post w) (hR : cells ≤ rm.cells ∧ slots ≤ rm.slots) : Lz K G w0 (Qz K G w0 cls post rm) nL pc lv st cls w cells slots := by
  intro ls H locs x cell hl hP hD hS hx hxs hxf T hT Y
  obtain ⟨h1, h2, h3, h4, h5⟩ := Y.leaveThrown x (g := F0 (km K) pc ls st) rfl rfl rfl (fun z hz => by rw [hex] at hz; cases hz) X.lk
  exact ⟨_, h1, .threw x, h2, h3, ⟨⟨x, w, cell, rfl, hp, by show va_P G.1 classes w T.heap; rw [hT]; exact hP, hD, by show T.heap[x]? = _; rw [hT]; exact hx, hxs, hxf⟩, hS.F hT⟩, h4, locs, h5.mono hR.1 hR.2, hS.2.2⟩
end R11
