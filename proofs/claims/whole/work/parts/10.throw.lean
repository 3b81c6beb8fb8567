/-! throwing: an exception made and thrown in a method without handlers; a callee that throws -/
section THR
variable {p : Program} {l : Launch} {e : Env} {R : Room} {s : State} {m : MethodId} {args : Array Value} {below : List Frame} {meth : Method} {c : Code} {T : State} {locs : List Loc} {cells slots : Nat}
/-- the walk begun anew where it stands -/
theorem th_rebase (X : Stand p l e R s m args below meth c T locs cells slots) {k n : Nat} (h1 : cells + k ≤ R.cells) (h2 : slots + n ≤ R.slots) :
    Stand p l e ({ frames := R.frames, cells := k, slots := n, locals := R.locals } : Room) (T.setFrames (.invoking m args :: below)) m args below meth c T [] 0 0 := by
  obtain ⟨g₀, hfr⟩ := X.frames_eq
  have hcur : T.cur < T.threads.size := State.cur_lt_of_frames hfr
  have hf : (T.setFrames (.invoking m args :: below)).frames = .invoking m args :: below := State.frames_setFrames _ hcur
  have hm : (T.setFrames (.invoking m args :: below)).vm.method? m = some meth := X.method'
  obtain ⟨t, ht, -⟩ := State.frames_cons hf
  obtain ⟨t2, ht2, -⟩ := State.frames_cons hfr
  have hcur' := State.cur_lt_of_frames hf
  refine ⟨X.admits, X.cas, X.clock, hf, ?_, ?_, hm, X.code, X.here, X.tail, State.WarmedH.refl _, by rw [State.stackLimits_setFrames], by rw [State.stackBytes_setFrames], ?_⟩
  · have r := X.room
    have e1 := State.localsInUse_invoking X.frames X.method X.code
    have e2 := State.localsInUse_invoking hf hm X.code
    have c1 := X.cellsAbove (n := k) h1
    have c2 := X.slotsAbove (n := n) h2
    have hb := X.book
    have hlen : (T.setFrames (.invoking m args :: below)).frames.length = s.frames.length := by rw [hf, X.frames]
    simp only [State.hasRoom, Bool.and_eq_true, decide_eq_true_eq] at r ⊢
    rw [e2, hlen, State.stackLimits_setFrames, X.limits, State.stackBytes_setFrames, X.bytes]
    rw [e1] at r
    exact ⟨⟨⟨r.1.1.1, c1⟩, c2⟩, hb⟩
  · have h := X.hears
    have hcd : ∀ x, (T.setFrames (.invoking m args :: below)).code? x = s.code? x := fun x => by
      rw [State.code?_eq, State.code?_eq]
      show (T.vm.method? x).bind _ = _
      rw [X.warmed.alike.method?]
    have hmd : (T.setFrames (.invoking m args :: below)).vm.method? m = s.vm.method? m := X.warmed.alike.method? _
    cases below with
    | nil => simp only [State.hears] at h ⊢; rw [hmd]; exact h
    | cons f r =>
      cases f <;> simp only [State.hears, hcd, hmd] at h ⊢ <;> exact h
  · have h := (State.sameButNew.refl (T.setFrames (.invoking m args :: below)) ht).setFrames T.frames hcur'
    rw [State.setFrames_setFrames, State.setFrames_self ht2] at h
    exact h
end THR
/-- what a method that throws leaves: an object of the component cls, and the world -/
def Qt (G : GG) (w : va_W) (sz : Nat) (cls : String) (post : va_W → Prop) : Array Value → State → Outcome → State → Prop := fun _ st oc t =>
  (∃ (x : Addr) (w' : va_W) (cell : Cell), oc = .threw x ∧ post w' ∧ va_P G.1 classes w' t.heap ∧ va_D (va_A w sz) w' ∧ t.heap[x]? = some cell ∧ cell.vm.isStatics = false ∧ st.vm.findClass cls = some cell.cls) ∧ va_F (va_A w sz) st t
def CtT (y : MethodName) (bytes : ByteArray) (maxL : Nat) (ret : Option FieldType) (rm : Room) (G : GG) (av : List Value) (w : va_W) (cls : String) (post : va_W → Prop) : Prop :=
  ∀ (l : Launch), LOK l → ∀ (sz : Nat), MetFree l y (headSpec (.code y bytes maxL ret :: WS) rm) (va_Pc av (Pm G w sz)) (fun _ _ _ _ _ => True)
    (fun a st o t => Qt G w sz cls post a st o t ∧ st.WarmedH t.vm ∧ ∃ L, st.sameButNew ({ t with vm := st.vm } : State) L rm.cells rm.slots ∧ ∀ q ∈ L, va_A w sz q.base)
def Qz (K : KX) (G : GG) (w0 : va_W) (cls : String) (post : va_W → Prop) (rm : Room) : State → Prop := fun t =>
  ∃ o, t.status = .running ∧ Ended t (kb K) o ∧ Qt G w0 (ks K).heap.size cls post (ka K) (ks K) o t ∧ (ks K).WarmedH t.vm ∧ ∃ L, (ks K).sameButNew ({ t with vm := (ks K).vm } : State) L rm.cells rm.slots ∧ ∀ q ∈ L, va_A w0 (ks K).heap.size q.base
theorem CtT.of {y : MethodName} {av : List Value} {cls : String} {post : va_W → Prop} {G : GG} {w : va_W} {cc : ByteArray} {nL : Nat} {rt : Option FieldType} {rm : Room} (hy : plainName y.cls = true) (hsl : (lg_sl av).length ≤ nL)
    (h : ∀ K : KX, Bd K G w y.cls cc nL rt rm → (kc K).exceptionTable.toList = [] → Lb K G w (Qz K G w cls post rm) nL 0 (lv_args 0 av) [] w 0 0) : CtT y cc nL rt rm G av w cls post := by
  intro l hlok sz
  refine MetFree.of_bodyS (code := cc) (maxLocals := nL) (ret := rt) hy ?_ ?_
  · intro args s m h hn
    obtain ⟨meth, c, h1, h2, h3, h4, h5, h6, -, -⟩ := Cond.code_spec hn (atoms_spec (ws := .code y cc nL rt :: WS) h _ List.mem_cons_self)
    exact ⟨meth, c, h1, h2, h3, h4, h5, h6⟩
  · intro p e s m args below meth c s₁ B hml hv _
    obtain ⟨rfl, hsz, hP, hD0, hG, hF⟩ := hv
    subst hsz
    have hts := atoms_spec (ws := .code y cc nL rt :: WS) B.pre
    have hl := lv_entry av (n := nL) hsl
    have hex : c.exceptionTable.toList = [] := code_noex B (hts _ List.mem_cons_self)
    have hh0 : s₁.heap = s.heap := by rw [B.state]; rfl
    have hW := h (p, l, e, (headSpec (.code y cc nL rt :: WS) rm).room, s, m, av.toArray, below, meth, c) ⟨B.exec, B.bytes, hml, findClass_of_methodNamed B.named, fun w hw => hts w (List.mem_cons_of_mem _ hw), hG, B.returns, B.notSynchronized, rfl, hF, st_apart hP, hlok⟩ hex _ _ _ hl hP hD0.self va_S.rf
    obtain ⟨t, a1, o, b1, b2, b3, b4, b5⟩ := hW s₁ hh0 (Stand.of_body B)
    rw [lg_entry_eq]
    exact ⟨t, o, a1, b1, b2, b3, b4, b5⟩
def ISR1 : Cond := .isRef (.static "java/lang/Throwable" "UNASSIGNED_STACK" "[Ljava/lang/StackTraceElement;")
def ISR2 : Cond := .isRef (.static "java/lang/Throwable" "SUPPRESSED_SENTINEL" "Ljava/util/List;")
def LST1 : Cond := .laysStatic "java/lang/Throwable" "UNASSIGNED_STACK" "[Ljava/lang/StackTraceElement;"
def LST2 : Cond := .laysStatic "java/lang/Throwable" "SUPPRESSED_SENTINEL" "Ljava/util/List;"
/-- the words that a throwing site of FirstTrees needs are all there -/
def AT (ic : Nat) (cls : String) (names : List String) : Prop := ∀ a ∈ Bundle.ownAtoms "FirstTrees" ic cls names, a ∈ WS ∨ a ∈ NW ∨ a = ISR1 ∨ a = ISR2 ∨ a = LST1 ∨ a = LST2
theorem isr_args {C n d : String} {A A' : Array Value} {U : State} (h : (Cond.isRef (.static C n d)).before A U = true) : (Cond.isRef (.static C n d)).before A' U = true := h
theorem lst_args {C n d : String} {A A' : Array Value} {U : State} (h : (Cond.laysStatic C n d).before A U = true) : (Cond.laysStatic C n d).before A' U = true := h
theorem AT.use {K : KX} {G : GG} {w0 : va_W} {own : String} {cc : ByteArray} {nL : Nat} {rt : Option FieldType} {rm : Room} (X : Bd K G w0 own cc nL rt rm) {ic : Nat} {cls : String} {names : List String} (h : AT ic cls names) {U : State} (hW : (ks K).WarmedH U.vm) (hsf : sf U) {A : Array Value} : ∀ a ∈ Bundle.ownAtoms "FirstTrees" ic cls names, a.before A U = true := by
  intro a ha
  rcases h a ha with h | h | h | h | h | h
  · exact word_at hW (WS_good a h) (X.ts a h)
  · have h1 : va_Nw a U := NW_warm hW X.g.2.1 a h
    have h2 : a.onTables = true := (by decide +kernel : ∀ w ∈ NW, w.onTables = true) a h
    exact va_Nw.use h2 h1
  · subst h; exact isr_args hsf.1
  · subst h; exact isr_args hsf.2.1
  · subst h; exact lst_args hsf.2.2.1
  · subst h; exact lst_args hsf.2.2.2
section R10
variable {K : KX} {G : GG} {w0 w : va_W} {Q : State → Prop} {own : String} {cc : ByteArray} {nL pc cells slots : Nat} {rt : Option FieldType} {rm : Room} {lv : List (Nat × Value)} {st : List Value}
theorem b_throw (X : Bd K G w0 "FirstTrees" cc nL rt rm) (hex : (kc K).exceptionTable.toList = []) {cls tx : String} {names : List String} {inew kstr ic : Nat} (hAT : AT ic cls names) (hfit : Bundle.fit cls = true ∧ ∀ n ∈ names, Bundle.fit n = true) (hcl : Cond.classLink "FirstTrees" inew cls ∈ WS) (hins : Cond.instantiable cls 6 ∈ WS) (hini : Cond.initialized cls ∈ WS) (hSR : ("FirstTrees", kstr, tx) ∈ SR)
    (hR : cells + 1 ≤ rm.cells ∧ slots + 6 ≤ rm.slots ∧ names.length + 3 < rm.frames ∧ (st.map fun v => v.category).sum + 1 + (13 * (names.length + 1) + 42) ≤ rm.locals)
    (d1 : decode cc pc = .ok (.new inew, 3)) (d2 : decode cc (pc + 3) = .ok (.dup, 1)) (d3 : decode cc (pc + 3 + 1) = .ok (.ldc kstr, 2)) (d4 : decode cc (pc + 3 + 1 + 2) = .ok (.invokespecial ic, 3)) (d5 : decode cc (pc + 3 + 1 + 2 + 3) = .ok (.athrow, 1))
    {post : va_W → Prop} (hp : post w) : Lb K G w0 (Qz K G w0 cls post rm) nL pc lv st w cells slots := by
  intro ls H locs hl hP hD hS T hT Y
  have hR' : cells + 1 ≤ (kr K).cells ∧ slots + 6 ≤ (kr K).slots := by rw [X.ro]; exact ⟨hR.1, hR.2.1⟩
  have Y' := th_rebase Y (k := 1) (n := 6) hR'.1 hR'.2
  have hWm : (ks K).WarmedH (T.setFrames (.invoking (km K) (ka K) :: (kb K))).vm := Y.warmed
  have hown : (T.setFrames (.invoking (km K) (ka K) :: (kb K))).vm.findClass "FirstTrees" = some (km K).cls := by rw [hWm.alike.findClass]; exact X.ow
  have hg := gf.warm hWm X.g
  have hsf : sf (T.setFrames (.invoking (km K) (ka K) :: (kb K))) := sf_keep hWm (fun a cell h1 h2 => by
    show T.heap[a]? = some cell
    rw [hT]; exact X.stay hS a cell h1 h2) X.sf
  have hat := AT.use X hAT hWm hsf (A := ka K)
  have hts : ∀ w ∈ WS, w.before (ka K) (T.setFrames (.invoking (km K) (ka K) :: (kb K))) = true := fun w hw => word_at hWm (WS_good w hw) (X.ts w hw)
  obtain ⟨q, hq⟩ := hg.2.2.1 _ hSR
  obtain ⟨cC, kC, hfc, hkC, -, -⟩ := Cond.instantiable_spec (hts _ hins)
  have main : W (kp K) (kl K) (ke K) ({ frames := (kr K).frames, cells := 1, slots := 6, locals := (kr K).locals } : Room) (T.setFrames (.invoking (km K) (ka K) :: (kb K))) (km K) (ka K) (kb K) (kt K) (kc K) H [] 0 0
      (fun t => t.status = .running ∧ Ended t (kb K) (.threw H.size) ∧ (T.setFrames (.invoking (km K) (ka K) :: (kb K))).WarmedH t.vm ∧ (T.setFrames (.invoking (km K) (ka K) :: (kb K))).sameButNew ({ t with vm := (T.setFrames (.invoking (km K) (ka K) :: (kb K))).vm } : State) [] 1 6 ∧ ∃ ce, t.heap[H.size]? = some ce ∧ Bundle.OwnCell (ka K) (T.setFrames (.invoking (km K) (ka K) :: (kb K))) cls H.size (.ref q) ce) (F0 (km K) pc ls st) := by
    refine W.newcK X.x X.b hown (hts _ hcl) (hts _ hins) (hts _ hini) rfl d1 (Nat.le_refl _) (Nat.le_refl _) hfc rfl (fun H1 kC1 hk1 hc1 hz1 ho1 => ?_)
    refine lv_dup X.x X.b d2 rfl ?_
    refine va_ldcS X.x X.b hown hq d3 ?_
    intro T2 hT2 Y2
    cases hkC.symm.trans hk1
    have hsz : (T.setFrames (.invoking (km K) (ka K) :: (kb K))).heap.size = H.size := by
      show T.heap.size = H.size
      rw [hT]
    obtain ⟨U, u1, u2, u3, u4, u5, u6⟩ := Y2.ctorThrowS X.x (X.lok _ Y.admits) hown hfit.1 hfit.2 hat (fun x hx => by cases hx) hfc hkC (a := H.size) (by rw [hT2]; exact hc1) (by rw [hsz]; exact Nat.le_refl _) (msg := .ref q) rfl
      (g := F0 (km K) (pc + 3 + 1 + 2) ls (.ref q :: .ref H.size :: .ref H.size :: st)) rfl (by rw [X.ml]; exact hl.1) rfl rfl rfl (by rw [X.b]; exact d4) (by rw [X.b]; exact d5) (fun x hx => by rw [hex] at hx; cases hx)
      (by show names.length + 3 < (kr K).frames; rw [X.ro]; exact hR.2.2.1)
      (by
        show 2 * 0 + ((Value.ref H.size :: st).map fun v => v.category).sum + _ ≤ (kr K).locals
        rw [X.ro, List.map_cons, List.sum_cons]
        have h4 := hR.2.2.2
        have h5 : (Value.ref H.size).category = 1 := rfl
        omega) X.lk
    exact ⟨U, u1, u2, u3, u4, u5, u6⟩
  obtain ⟨t, t1, t2, t3, t4, t5, ce, t6, t7⟩ := main T hT Y'
  have hsame : (ks K).sameButNew ({ t with vm := (ks K).vm } : State) (locs ++ []) (cells + 1) (slots + 6) := (Y.same.setFrames (.invoking (km K) (ka K) :: (kb K)) Y.cur).trans (t5.setVm (ks K).vm)
  rw [List.append_nil] at hsame
  have hold : ∀ (a : Nat) (cell : Cell), H[a]? = some cell → t.heap[a]? = some cell := fun a cell h => by
    have h1 : (T.setFrames (.invoking (km K) (ka K) :: (kb K))).heap[a]? = some cell := by
      show T.heap[a]? = some cell
      rw [hT]; exact h
    exact t5.old_cell h1
  have hsz2 : H.size ≤ t.heap.size := by
    have h1 : (T.setFrames (.invoking (km K) (ka K) :: (kb K))).heap.size ≤ t.heap.size := t5.2.1
    have h2 : (T.setFrames (.invoking (km K) (ka K) :: (kb K))).heap.size = H.size := by
      show T.heap.size = H.size
      rw [hT]
    omega
  have hP2 : va_P G.1 classes w t.heap := hP.kept (fun k q hq => by
    have hlt := (hP k q hq).lt
    rw [Array.getElem?_eq_getElem hlt]
    exact hold q.1 _ (Array.getElem?_eq_getElem hlt))
  refine ⟨t, t1, .threw H.size, t2, t3, ⟨⟨H.size, w, ce, rfl, hp, hP2, hD, t6, by rw [t7.vm]; rfl, ?_⟩, Nat.le_trans hS.1 hsz2, fun q h1 h2 => ?_⟩, State.WarmedH.trans Y.warmed t4, locs, hsame.mono hR.1 hR.2.1, hS.2.2⟩
  · rw [← hWm.alike.findClass]; exact t7.cls
  · have h3 := hS.2.1 q h1 h2
    have hlt : q < H.size := Nat.lt_of_lt_of_le h1 hS.1
    rw [← h3, Array.getElem?_eq_getElem hlt]
    exact hold q _ (Array.getElem?_eq_getElem hlt)
end R10
