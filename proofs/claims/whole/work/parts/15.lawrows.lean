/-! the law's own rows: calls of its helpers, of the component behind one cell, the script -/
def CFH (y : MethodName) (bytes : ByteArray) (maxL : Nat) (ret : Option FieldType) (hs : EX) (n : Nat) : Prop := Cond.codeWith y bytes maxL ret hs ∈ WS ∧ Cond.initialized y.cls ∈ WS ∧ (y.cls ≠ "java/lang/invoke/MethodHandle" ∧ y.cls ≠ "java/lang/invoke/VarHandle") ∧ (parseMethodDescriptor y.desc).map (fun d => d.parameters.length) = some n ∧ Cond.static y ∈ WS
section R15
variable {K : KX} {G : GG} {w0 w : va_W} {Q : State → Prop} {own : String} {cc : ByteArray} {nL pc cells slots : Nat} {rt : Option FieldType} {rm : Room} {lv : List (Nat × Value)} {st : List Value}
variable {y : MethodName} {bytes : ByteArray} {maxL n index b : Nat} {ret : Option FieldType} {rm' : Room} {As rest st0 : List Value} {post' : PostT} {wl wc wr : va_W}
theorem b_callH (X : Bd K G w0 own cc nL rt rm) (hnf : nf (ks K)) {hs : EX} (C : CFH y bytes maxL ret hs n) (ml : Cond.methodLink own index y ∈ WS) (hw : w = wl ++ (wc ++ wr)) (ct : CtH y bytes maxL ret hs rm' G As wc post') (hn : As.length = n) (hst : (rest.map fun v => v.category).sum ≤ 8) (hR : rm'.frames + 1 ≤ rm.frames ∧ 8 + (maxL + 11) + rm'.locals ≤ rm.locals) (hf : cells + rm'.cells ≤ rm.cells ∧ slots + rm'.slots ≤ rm.slots) (hs0 : st0 = As.reverse ++ rest) (d : decode cc pc = .ok (.invokestatic index, 3))
    (k : ∀ (v : Option Value) (w' : va_W), post' v w' → Lb K G w0 Q nL (pc + 3) lv (v.toList ++ rest) (wl ++ (w' ++ wr)) (cells + rm'.cells) (slots + rm'.slots)) : Lb K G w0 Q nL pc lv st0 w cells slots := by
  refine b_runA (rest := rest) (av := As.toArray) hw (fun ls H locs hl hP hD hS => ?_) k
  subst hs0
  intro T hT Y
  have hwd : ∀ (a' : Array Value) (U : State), (ks K).WarmedH U.vm → ∀ w ∈ (.codeWith y bytes maxL ret hs :: WS : List Cond), w.before a' U = true := fun a' U hW w hw => by
    rcases List.mem_cons.mp hw with rfl | h
    · exact word_at hW (WS_good _ C.1) (X.ts _ C.1)
    · exact word_at hW (WS_good w h) (X.ts w h)
  have hK : Back (kl K) (kr K) (kp K) (ke K) (kb K) (ks K) (ka K) y 3 8 (PreOf (kr K) rm'.cells rm'.slots (va_Pc As (fun U => Pm G wc H.size U ∧ nf U))) (PostOf (Qm G wc H.size post') rm'.cells rm'.slots (va_A wc H.size)) := by
    refine Back.of_freeWith (handlers := hs) (bytes := bytes) (maxL := maxL) (ret := ret) (E := fun a st o t L k n => k = rm'.cells ∧ n = rm'.slots ∧ ∀ q ∈ L, va_A wc H.size q.base) (ct (kl K) X.lok H.size) (by rw [X.ro]; exact hR.1) (by rw [X.ro]; exact hR.2) ?_ ?_ (fun _ _ _ _ _ _ _ _ _ => trivial) ?_ ?_
    · intro m meth c A a Y2 hp
      exact ⟨atoms_intro (hwd _ _ Y2.warmed), hwd _ _ Y2.warmed _ List.mem_cons_self, word_at Y2.warmed (WS_good _ C.2.1) (X.ts _ C.2.1), hp.1, hp.2.1⟩
    · intro m meth c A a g mk Y2 hp
      obtain ⟨p1, p2, p3⟩ := hp.2.2
      exact ⟨p1, (Pm.blind _ _ g mk ⟨p1, p2⟩).2, nf.warm (State.WarmedH.refl A.U) p3⟩
    · intro a st o t ⟨hq, L, hF, hL⟩
      exact ⟨L, rm'.cells, rm'.slots, hF, rfl, rfl, hL⟩
    · intro m meth c A a g mk v t L k n Y2 hp hq hF ⟨e1, e2, hL⟩
      subst e1; subst e2
      exact ⟨g, mk, t, L, rfl, rfl, hq.1, rfl, hL, rfl, rfl⟩
  obtain ⟨mk, methM, cM, hnamed, hmethM, -, -, -, -, -, -, hsigM⟩ := Cond.codeWith_spec (X.ts _ C.1)
  have hstatic : methM.isStatic = true := Cond.static_spec hnamed hmethM (X.ts _ C.2.2.2.2)
  obtain ⟨kP, hkP, -⟩ := className_of_methodNamed hnamed
  have hinitP : kP.init = .initialized := Cond.initialized_spec (findClass_of_methodNamed hnamed) hkP (X.ts _ C.2.1)
  have hlen : As.length = methM.sig.parameters.length := by
    have h2 := C.2.2.2.1
    rw [hsigM] at h2
    rw [hn]; exact (Option.some.inj h2).symm
  obtain ⟨vm₁, X₁, hstep₁⟩ := Y.invokestatic X.x X.ow (X.ts _ ml) hnamed hmethM hstatic hkP hinitP C.2.2.1 (g := F0 (km K) pc ls (As.reverse ++ rest)) rfl (argsL := As) (rest := rest) hlen rfl (by rw [X.b]; exact d)
  have hpre := Pm.pre X hP hD hS (T.setVm vm₁) hT X₁.warmed
  obtain ⟨v, ⟨U', l2, c2, s2⟩, X', ⟨g', mk', t, L, e1, e2, hq, h1, hL, h2, h3⟩, st⟩ := hK (km K) (kt K) (kc K) ⟨T.setVm vm₁, locs, cells, slots⟩ (F0 (km K) pc ls rest) (.invokestatic index) mk As.toArray X₁ rfl (by rw [X.ml]; exact hl.1) (by rw [X.b]; exact d) (lv_room hst) (X₁.named hnamed) ⟨by rw [X.ro]; exact hf.1, by rw [X.ro]; exact hf.2, rfl, hpre, nf.warm X₁.warmed hnf⟩
  dsimp only [Pt.U, Pt.locs, Pt.cells, Pt.slots] at X' e1 e2 h1 h2 h3 st
  subst h1; subst h2; subst h3
  exact ⟨v, (T.setVm vm₁).calling g' mk' As.toArray, t, U', L, hT, X', hL, e1, e2, hq, fun target h => hstep₁ _ fun acts => by rw [doInvoke_state]; exact st.trans h⟩
theorem b_callV1 {x0 : Nat × va_E} (X : Bd K G w0 own cc nL rt rm) (C : CF y bytes maxL ret n) (hi : Cond.instanceMethod y ∈ WS ∧ Cond.selects y.cls y y ∈ WS) (ml : Cond.methodLink own index y ∈ WS) (ct : Ct y bytes maxL ret rm' G (.ref b :: As) wc post') (q0 : Nat) {ci : Nat} {fs : List Value} {T : u_T} {N : Nat} (he : wc[q0]? = some (b, .inr (ci, fs))) (hc : classes[ci]? = some (y.cls, T, N)) (hn : As.length = n) (hst : (rest.map fun v => v.category).sum ≤ 8) (hR : rm'.frames + 1 ≤ rm.frames ∧ 8 + (maxL + 11) + rm'.locals ≤ rm.locals) (hf : cells + rm'.cells ≤ rm.cells ∧ slots + rm'.slots ≤ rm.slots) (hs0 : st0 = As.reverse ++ .ref b :: rest) (d : decode cc pc = .ok (.invokevirtual index, 3))
    (k : ∀ (v : Option Value) (w' : va_W), post' v w' → Lb K G w0 Q nL (pc + 3) lv (v.toList ++ rest) (x0 :: w') (cells + rm'.cells) (slots + rm'.slots)) : Lb K G w0 Q nL pc lv st0 (x0 :: wc) cells slots :=
  b_callVA (wl := [x0]) (wr := []) X C hi ml (by rw [List.append_nil]; rfl) ct q0 he hc hn hst hR hf hs0 d (fun v w' h => by rw [List.append_nil]; exact k v w' h)
theorem b_callT1 {x0 : Nat × va_E} {cls : String} {postz : va_W → Prop} (X : Bd K G w0 own cc nL rt rm) (C : CF y bytes maxL ret n) (hi : Cond.instanceMethod y ∈ WS ∧ Cond.selects y.cls y y ∈ WS) (ml : Cond.methodLink own index y ∈ WS) (ct : CtT y bytes maxL ret rm' G (.ref b :: As) wc cls postz) (q0 : Nat) {ci : Nat} {fs : List Value} {T : u_T} {N : Nat} (he : wc[q0]? = some (b, .inr (ci, fs))) (hc : classes[ci]? = some (y.cls, T, N)) (hn : As.length = n) (hst : (rest.map fun v => v.category).sum ≤ 8) (hR : rm'.frames + 1 ≤ rm.frames ∧ 8 + (maxL + 11) + rm'.locals ≤ rm.locals) (hf : cells + rm'.cells ≤ rm.cells ∧ slots + rm'.slots ≤ rm.slots) (hs0 : st0 = As.reverse ++ .ref b :: rest) (d : decode cc pc = .ok (.invokevirtual index, 3))
    (k : ∀ (w' : va_W), postz w' → Lz K G w0 Q nL pc lv rest cls (x0 :: w') (cells + rm'.cells) (slots + rm'.slots)) : Lb K G w0 Q nL pc lv st0 (x0 :: wc) cells slots :=
  b_callTA (wl := [x0]) (wr := []) X C hi ml (by rw [List.append_nil]; rfl) ct q0 he hc hn hst hR hf hs0 d (fun w' h => by rw [List.append_nil]; exact k w' h)
theorem b_sld (X : Bd K G [] own cc nL rt rm) {b L : Nat} {xs : Nat → Int32} (hX : va_X b L xs (ks K) (ks K).heap) (hbl : b < (ks K).heap.size) {i : Int32} (j : Nat) (hi : i = nI j) (hj : j < L) (hL : L < 2 ^ 31) (d : decode cc pc = .ok (.iaload, 1)) (k : Lb K G [] Q nL (pc + 1) lv (.int (xs j) :: st) w cells slots) : Lb K G [] Q nL pc lv (.int i :: .ref b :: st) w cells slots := by
  intro ls H locs hl hP hD hS
  obtain ⟨h1, h2⟩ := nI_in1 hi hj hL
  refine va_sld X.x X.b hX hbl (fun h => ?_) hS h1 d ?_
  · rcases h with ⟨k, e, h⟩ | h
    · cases k <;> cases h
    · omega
  · rw [h2]
    exact k ls H locs hl hP hD hS
theorem b_slen (X : Bd K G [] own cc nL rt rm) {b L : Nat} {xs : Nat → Int32} (hX : va_X b L xs (ks K) (ks K).heap) (hbl : b < (ks K).heap.size) (d : decode cc pc = .ok (.arraylength, 1)) (k : Lb K G [] Q nL (pc + 1) lv (.int (nI L) :: st) w cells slots) : Lb K G [] Q nL pc lv (.ref b :: st) w cells slots := by
  intro ls H locs hl hP hD hS
  refine va_slen X.x X.b hX hbl (fun h => ?_) hS d (k ls H locs hl hP hD hS)
  rcases h with ⟨k, e, h⟩ | h
  · cases k <;> cases h
  · omega
end R15
