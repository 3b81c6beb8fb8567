/-! worlds side by side; methods with handlers -/
theorem va_P_l {D : va_G} {cl : List vw_C} {a b : va_W} {H : Heap} (h : va_P D cl (a ++ b) H) : va_P D cl a H := fun k q hk => h k q (by rw [List.getElem?_append_left (List.getElem?_eq_some_iff.mp hk).1]; exact hk)
theorem va_P_r {D : va_G} {cl : List vw_C} {a b : va_W} {H : Heap} (h : va_P D cl (a ++ b) H) : va_P D cl b H := fun k q hk => h (a.length + k) q (by rw [List.getElem?_append_right (by omega), Nat.add_sub_cancel_left]; exact hk)
theorem va_D_l {A : Nat → Prop} {a b : va_W} (h : va_D A (a ++ b)) : va_D A a := by
  have e : ∀ (k : Nat) (q : Nat × va_E), a[k]? = some q → (a ++ b)[k]? = some q := fun k q hk => by rw [List.getElem?_append_left (List.getElem?_eq_some_iff.mp hk).1]; exact hk
  exact ⟨fun i j p q hi hj hpq => h.1 i j p q (e i p hi) (e j q hj) hpq, fun k q hk => h.2 k q (e k q hk)⟩
theorem va_D_r {A : Nat → Prop} {a b : va_W} (h : va_D A (a ++ b)) : va_D A b := by
  have e : ∀ (k : Nat) (q : Nat × va_E), b[k]? = some q → (a ++ b)[a.length + k]? = some q := fun k q hk => by rw [List.getElem?_append_right (by omega), Nat.add_sub_cancel_left]; exact hk
  exact ⟨fun i j p q hi hj hpq => by have := h.1 _ _ p q (e i p hi) (e j q hj) hpq; omega, fun k q hk => h.2 _ q (e k q hk)⟩
theorem va_D_x {A : Nat → Prop} {a b : va_W} (h : va_D A (a ++ b)) : ∀ (i j : Nat) (p q : Nat × va_E), a[i]? = some p → b[j]? = some q → p.1 ≠ q.1 := by
  intro i j p q hi hj e
  have h1 := (List.getElem?_eq_some_iff.mp hi).1
  have := h.1 i (a.length + j) p q (by rw [List.getElem?_append_left h1]; exact hi) (by rw [List.getElem?_append_right (by omega), Nat.add_sub_cancel_left]; exact hj) e
  omega
section R14
variable {K : KX} {G : GG} {w0 w : va_W} {Q : State → Prop} {own : String} {cc : ByteArray} {nL pc cells slots : Nat} {rt : Option FieldType} {rm : Room} {lv : List (Nat × Value)} {st : List Value}
/-- a call whose world stands in the middle of the caller's -/
theorem va_mid {A0 : Nat → Prop} {wl wc wr w' : va_W} {H H1 : Heap} (hP : va_P G.1 classes (wl ++ (wc ++ wr)) H) (hD : va_D A0 (wl ++ (wc ++ wr))) (hk : ∀ q : Nat, q < H.size → ¬ va_A wc H.size q → H1[q]? = H[q]?) (hF : ∀ q, va_A wc H.size q → A0 q) (hP1 : va_P G.1 classes w' H1) (hD1 : va_D (va_A wc H.size) w') : va_P G.1 classes (wl ++ (w' ++ wr)) H1 ∧ va_D A0 (wl ++ (w' ++ wr)) := by
  have hPl := va_P_l hP
  have hPr := va_P_r (va_P_r hP)
  have hDl := va_D_l hD
  have hDcr := va_D_r hD
  have hDr := va_D_r hDcr
  have nl : ∀ (k : Nat) (q : Nat × va_E), wl[k]? = some q → q.1 < H.size ∧ ¬ va_A wc H.size q.1 := fun k q hq => ⟨(hPl k q hq).lt, fun h => by
    rcases h with ⟨j, e, h⟩ | h
    · exact va_D_x hD k j q (q.1, e) hq (by rw [List.getElem?_append_left (List.getElem?_eq_some_iff.mp h).1]; exact h) rfl
    · exact absurd (hPl k q hq).lt (by omega)⟩
  have nr : ∀ (k : Nat) (q : Nat × va_E), wr[k]? = some q → q.1 < H.size ∧ ¬ va_A wc H.size q.1 := fun k q hq => ⟨(hPr k q hq).lt, fun h => by
    rcases h with ⟨j, e, h⟩ | h
    · exact va_D_x hDcr j k (q.1, e) q h hq rfl
    · exact absurd (hPr k q hq).lt (by omega)⟩
  have hPl1 : va_P G.1 classes wl H1 := hPl.kept (fun k q hq => hk q.1 (nl k q hq).1 (nl k q hq).2)
  have hPr1 : va_P G.1 classes wr H1 := hPr.kept (fun k q hq => hk q.1 (nr k q hq).1 (nr k q hq).2)
  have hD1' : va_D A0 w' := hD1.weaken (fun k q _ h => hF q.1 h)
  have hx2 : va_D A0 (w' ++ wr) := hD1'.app hDr (fun i j x y hx hy e => (nr j y hy).2 (by rw [← e]; exact hD1.2 i x hx))
  refine ⟨hPl1.app (hP1.app hPr1), hDl.app hx2 (fun i j x y hx hy e => ?_)⟩
  by_cases hj : j < w'.length
  · rw [List.getElem?_append_left hj] at hy
    exact (nl i x hx).2 (by rw [e]; exact hD1.2 j y hy)
  · rw [List.getElem?_append_right (by omega)] at hy
    exact va_D_x hD i (wc.length + (j - w'.length)) x y hx (by rw [List.getElem?_append_right (by omega), Nat.add_sub_cancel_left]; exact hy) e
theorem b_runA {wl wc wr : va_W} {post' : PostT} {mc ms : Nat} {st0 rest : List Value} {av : Array Value} (hw : w = wl ++ (wc ++ wr))
    (run : ∀ (ls : Array Slot) (H : Heap) (locs : List Loc), lv_has ls nL lv → va_P G.1 classes wc H → va_D (va_A w0 (ks K).heap.size) wc → va_S (va_A w0 (ks K).heap.size) (ks K).heap H locs → va_Run (kp K) (kl K) (ke K) (kr K) (ks K) (km K) (ka K) (kb K) (kt K) (kc K) H locs cells slots mc ms (F0 (km K) pc ls st0) rest (Qm G wc H.size post' av) (va_A wc H.size))
    (k : ∀ (v : Option Value) (w' : va_W), post' v w' → Lb K G w0 Q nL (pc + 3) lv (v.toList ++ rest) (wl ++ (w' ++ wr)) (cells + mc) (slots + ms)) : Lb K G w0 Q nL pc lv st0 w cells slots := by
  subst hw
  intro ls H locs hl hP hD hS T hT Xs
  have hPc := va_P_l (va_P_r hP)
  have hDc := va_D_l (va_D_r hD)
  obtain ⟨v, st₀, t, T', L, h0, X', hL, e1, e2, ⟨⟨v', w', hv, hp, hP1, hD1⟩, hz, hk⟩, st⟩ := run ls H locs hl hPc hDc hS T hT Xs
  cases hv
  rw [h0] at hz hk
  have hF : ∀ q, va_A wc H.size q → va_A w0 (ks K).heap.size q := fun q h => by
    rcases h with ⟨k, e, h⟩ | h
    · exact hDc.2 k _ h
    · exact Or.inr (Nat.le_trans hS.1 h)
  obtain ⟨hPj, hDj⟩ := va_mid hP hD (fun q h1 h2 => hk q h1 h2) hF hP1 hD1
  obtain ⟨t2, a1, b1⟩ := k v w' hp ls T'.heap (locs ++ L) hl (by rw [e1]; exact hPj) hDj
    ⟨Nat.le_trans hS.1 (by rw [e1]; exact hz), fun q h1 h2 => by rw [e1, hk q (Nat.lt_of_lt_of_le h1 hS.1) (fun z => h2 (hF q z))]; exact hS.2.1 q h1 h2, fun q hq => by
      rcases List.mem_append.mp hq with h | h
      · exact hS.2.2 q h
      · exact hF _ (hL q h)⟩ T' rfl X'
  exact ⟨t2, st t2 a1, b1⟩
section CALLA
variable {y : MethodName} {bytes : ByteArray} {maxL n index b : Nat} {ret : Option FieldType} {rm' : Room} {As rest st0 : List Value} {post' : PostT} {host : String} {wl wc wr : va_W}
theorem b_callVA (X : Bd K G w0 own cc nL rt rm) (C : CF y bytes maxL ret n) (hi : Cond.instanceMethod y ∈ WS ∧ Cond.selects y.cls y y ∈ WS) (ml : Cond.methodLink own index y ∈ WS) (hw : w = wl ++ (wc ++ wr)) (ct : Ct y bytes maxL ret rm' G (.ref b :: As) wc post') (q0 : Nat) {ci : Nat} {fs : List Value} {T : u_T} {N : Nat} (he : wc[q0]? = some (b, .inr (ci, fs))) (hc : classes[ci]? = some (y.cls, T, N)) (hn : As.length = n) (hst : (rest.map fun v => v.category).sum ≤ 8) (hR : rm'.frames + 1 ≤ rm.frames ∧ 8 + (maxL + 11) + rm'.locals ≤ rm.locals) (hf : cells + rm'.cells ≤ rm.cells ∧ slots + rm'.slots ≤ rm.slots) (hs0 : st0 = As.reverse ++ .ref b :: rest) (d : decode cc pc = .ok (.invokevirtual index, 3))
    (k : ∀ (v : Option Value) (w' : va_W), post' v w' → Lb K G w0 Q nL (pc + 3) lv (v.toList ++ rest) (wl ++ (w' ++ wr)) (cells + rm'.cells) (slots + rm'.slots)) : Lb K G w0 Q nL pc lv st0 w cells slots := by
  refine b_runA (rest := rest) (av := (Value.ref b :: As).toArray) hw (fun ls H locs hl hP hD hS => ?_) k
  subst hs0
  exact va_runV X.fix (ct (kl K) X.lok H.size) ⟨C.b X ml hR, X.ts _ hi.1, X.ts _ hi.2⟩ ⟨Pm.blind, va_recv X.g.1 hP hc he, fun U hU hW => ⟨rfl, Pm.pre X hP hD hS U hU hW⟩⟩ rfl hn hl.1 rfl (lv_room hst) d (by rw [X.ro]; exact hf)
theorem b_callIA (X : Bd K G w0 own cc nL rt rm) (C : CF y bytes maxL none n) (hi : Cond.instanceMethod y ∈ WS) (hy : y.name = "<init>") (ml : Cond.methodLink own index y ∈ WS) (hw : w = wl ++ (wc ++ wr)) (ct : Ct y bytes maxL none rm' G (.ref b :: As) wc post') (hn : As.length = n) (hst : (rest.map fun v => v.category).sum ≤ 8) (hr : rm'.frames + 1 ≤ rm.frames ∧ 8 + (maxL + 11) + rm'.locals ≤ rm.locals) (hf : cells + rm'.cells ≤ rm.cells ∧ slots + rm'.slots ≤ rm.slots) (hs0 : st0 = As.reverse ++ .ref b :: rest) (d : decode cc pc = .ok (.invokespecial index, 3))
    (k : ∀ (v : Option Value) (w' : va_W), post' v w' → Lb K G w0 Q nL (pc + 3) lv (v.toList ++ rest) (wl ++ (w' ++ wr)) (cells + rm'.cells) (slots + rm'.slots)) : Lb K G w0 Q nL pc lv st0 w cells slots := by
  refine b_runA (rest := rest) (av := (Value.ref b :: As).toArray) hw (fun ls H locs hl hP hD hS => ?_) k
  subst hs0
  exact va_runI X.fix (ct (kl K) X.lok H.size) ⟨C.b X ml hr, hy, X.ts _ hi⟩ ⟨Pm.blind, fun U hU hW => ⟨rfl, Pm.pre X hP hD hS U hU hW⟩⟩ rfl hn hl.1 rfl (lv_room hst) d (by rw [X.ro]; exact hf)
end CALLA
end R14
/-- classes that are not of each other's kind -/
def NC : List (String × String) := [("java/lang/UnsupportedOperationException", "java/lang/IllegalArgumentException"), ("java/lang/UnsupportedOperationException", "java/lang/IllegalStateException"), ("java/lang/UnsupportedOperationException", "java/lang/IndexOutOfBoundsException"), ("java/lang/IllegalArgumentException", "java/lang/UnsupportedOperationException"), ("java/lang/IllegalArgumentException", "java/lang/IllegalStateException"), ("java/lang/IllegalArgumentException", "java/lang/IndexOutOfBoundsException"), ("java/lang/IllegalStateException", "java/lang/UnsupportedOperationException"), ("java/lang/IllegalStateException", "java/lang/IllegalArgumentException"), ("java/lang/IllegalStateException", "java/lang/IndexOutOfBoundsException"), ("java/lang/IndexOutOfBoundsException", "java/lang/UnsupportedOperationException"), ("java/lang/IndexOutOfBoundsException", "java/lang/IllegalArgumentException"), ("java/lang/IndexOutOfBoundsException", "java/lang/IllegalStateException")]
def nf (U : State) : Prop := ∀ q ∈ NC, ∃ c t, U.vm.findClass q.1 = some c ∧ U.vm.findClass q.2 = some t ∧ U.vm.assignable c t = false
theorem nf.warm {s U : State} (hW : s.WarmedH U.vm) (h : nf s) : nf U := fun q hq => by
  obtain ⟨c, t, h1, h2, h3⟩ := h q hq
  exact ⟨c, t, by rw [hW.alike.findClass]; exact h1, by rw [hW.alike.findClass]; exact h2, by rw [hW.alike.assignable]; exact h3⟩
theorem nf.of {args : Array Value} {s : State} (h : ∀ q ∈ NC, (Cond.not (.castable q.1 q.2)).before args s = true) : nf s := fun q hq => by
  have hv := Cond.holds_not_iff.mp (h q hq)
  simp only [Cond.value] at hv
  cases h1 : s.vm.findClass q.1 with
  | none => simp [h1] at hv
  | some c =>
    cases h2 : s.vm.findClass q.2 with
    | none => simp [h1, h2] at hv
    | some t => exact ⟨c, t, rfl, rfl, by simpa [h1, h2] using hv⟩
abbrev EX : Type := List (Nat × Nat × Nat × Nat)
def exl (c : Code) : EX := c.exceptionTable.toList.map (fun h => (h.startPc, h.endPc, h.handlerPc, h.catchType))
/-- a contract of a method with handlers (the law's own) -/
def CtH (y : MethodName) (bytes : ByteArray) (maxL : Nat) (ret : Option FieldType) (hs : EX) (rm : Room) (G : GG) (av : List Value) (w : va_W) (post : PostT) : Prop :=
  ∀ (l : Launch), LOK l → ∀ (sz : Nat), MetFree l y (headSpec (.codeWith y bytes maxL ret hs :: WS) rm) (va_Pc av (fun U => Pm G w sz U ∧ nf U)) (fun _ _ _ _ _ => True)
    (fun a st o t => Qm G w sz post a st o t ∧ ∃ L, FrameEnd st o t L rm.cells rm.slots ∧ ∀ q ∈ L, va_A w sz q.base)
theorem CtH.of {y : MethodName} {hs : EX} {av : List Value} {post : PostT} {G : GG} {w : va_W} {cc : ByteArray} {nL : Nat} {rt : Option FieldType} {rm : Room} (hy : plainName y.cls = true) (hsl : (lg_sl av).length ≤ nL)
    (h : ∀ K : KX, Bd K G w y.cls cc nL rt rm → nf (ks K) → exl (kc K) = hs → Lb K G w (Qe K G w post rm) nL 0 (lv_args 0 av) [] w 0 0) : CtH y cc nL rt hs rm G av w post := by
  intro l hlok sz
  refine MetFree.of_bodyS (code := cc) (maxLocals := nL) (ret := rt) hy ?_ ?_
  · intro args s m h hn
    obtain ⟨m', meth, c, h0, h1, h2, h3, h4, -, h5, h6, -⟩ := Cond.codeWith_spec (atoms_spec (ws := .codeWith y cc nL rt hs :: WS) h _ List.mem_cons_self)
    cases hn.symm.trans h0
    exact ⟨meth, c, h1, h2, h3, h4, h5, h6⟩
  · intro p e s m args below meth c s₁ B hml hv _
    obtain ⟨rfl, ⟨hsz, hP, hD0, hG, hF⟩, hnf⟩ := hv
    subst hsz
    have hts := atoms_spec (ws := .codeWith y cc nL rt hs :: WS) B.pre
    have hl := lv_entry av (n := nL) hsl
    have hex : exl c = hs := by
      obtain ⟨m', meth', c', h0, h1, h2, -, -, h3, -⟩ := Cond.codeWith_spec (hts _ List.mem_cons_self)
      cases B.named.symm.trans h0
      cases h1.symm.trans B.method
      have h4 : meth.code = some c := by
        have h := B.here.code
        rw [State.code?_eq, B.method₁] at h
        exact h
      cases h2.symm.trans h4
      exact h3
    have hh0 : s₁.heap = s.heap := by rw [B.state]; rfl
    have hW := h (p, l, e, (headSpec (.codeWith y cc nL rt hs :: WS) rm).room, s, m, av.toArray, below, meth, c) ⟨B.exec, B.bytes, hml, findClass_of_methodNamed B.named, fun w hw => hts w (List.mem_cons_of_mem _ hw), hG, B.returns, B.notSynchronized, rfl, hF, st_apart hP, hlok⟩ hnf hex _ _ _ hl hP hD0.self va_S.rf
    obtain ⟨t, a1, o, b1, b2, b3⟩ := hW s₁ hh0 (Stand.of_body B)
    rw [lg_entry_eq]
    exact ⟨t, o, a1, b1, b2, b3⟩
section R14b
variable {K : KX} {G : GG} {w0 w : va_W} {Q : State → Prop} {own : String} {cc : ByteArray} {nL pc cells slots : Nat} {rt : Option FieldType} {rm : Room} {lv : List (Nat × Value)} {st : List Value} {cls : String}
theorem b_catch (X : Bd K G w0 own cc nL rt rm) (hnf : nf (ks K)) {hs : EX} (hex : exl (kc K) = hs) (pre : EX) (x : Nat × Nat × Nat × Nat) (rest : EX) (hsp : hs = pre ++ x :: rest)
    (hpre : ∀ y ∈ pre, y.1 ≤ pc ∧ pc < y.2.1 ∧ y.2.2.2 ≠ 0 ∧ ∃ nm, Cond.classLink own y.2.2.2 nm ∈ WS ∧ (cls, nm) ∈ NC)
    (hx : x.1 ≤ pc ∧ pc < x.2.1 ∧ x.2.2.2 ≠ 0 ∧ Cond.classLink own x.2.2.2 cls ∈ WS ∧ Cond.castable cls cls ∈ NW)
    (k : ∀ a, Lb K G w0 Q nL x.2.2.1 lv [.ref a] w cells slots) : Lz K G w0 Q nL pc lv st cls w cells slots := by
  intro ls H locs a cell hl hP hD hS ha has haf T hT Y
  have hpl : (ke K).platform.magicAccessors = ({} : Platform).magicAccessors := by rw [Y.admits.platform]
  rw [hsp] at hex
  obtain ⟨pre', r1, e1, e2, e3⟩ := List.map_eq_append_iff.mp hex
  obtain ⟨x', r2, e4, e5, -⟩ := List.map_eq_cons_iff.mp e3
  subst e4
  have cov : ∀ (y : ExceptionTableEntry) (z : Nat × Nat × Nat × Nat), (y.startPc, y.endPc, y.handlerPc, y.catchType) = z → z.1 ≤ pc → pc < z.2.1 → covers y pc = true := by
    intro y z hz h1 h2
    subst hz
    simp only [covers]
    simp [h1, h2]
  have hx' : covers x' pc = true ∧ x'.catchType ≠ 0 ∧ ∃ c, (ks K).vm.ClassLinks (ke K).platform (km K).cls x'.catchType c ∧ (ks K).vm.assignable cell.cls c = true := by
    obtain ⟨h1, h2, h3, h4, h5⟩ := hx
    have hct : x'.catchType = x.2.2.2 := by rw [← e5]
    refine ⟨cov x' x e5 h1 h2, by rw [hct]; exact h3, ?_⟩
    obtain ⟨c, hc, hcl⟩ := Cond.classLink_spec X.ow (X.ts _ h4) (ke K).platform hpl
    cases haf.symm.trans hc
    obtain ⟨c1, c2, g1, g2, g3⟩ := Cond.castable_spec (args := #[]) (first := ks K) (o := none) (idx := []) (X.g.2.1 _ h5)
    cases haf.symm.trans g1
    cases haf.symm.trans g2
    exact ⟨cell.cls, by rw [hct]; exact hcl, g3⟩
  have hk0 : ∃ k, (ks K).vm.classes[cell.cls]? = some k := by
    obtain ⟨c, hc, hcl⟩ := Cond.classLink_spec X.ow (X.ts _ hx.2.2.2.1) (ke K).platform hpl
    cases haf.symm.trans hc
    obtain ⟨dk, _, _, kt, hd, _, _, _, _, hkt, _, hopen⟩ := hcl.here
    exact ⟨kt, hkt⟩
  obtain ⟨vm', X', hgo⟩ := fh_caught Y (g := F0 (km K) pc ls st) rfl (by rw [hT]; exact ha) has hk0 pre' x' r2 e1 (fun y hy => by
    have hm : (y.startPc, y.endPc, y.handlerPc, y.catchType) ∈ pre := by rw [← e2]; exact List.mem_map.mpr ⟨y, hy, rfl⟩
    obtain ⟨h1, h2, h3, nm, h4, h5⟩ := hpre _ hm
    obtain ⟨c, hc, hcl⟩ := Cond.classLink_spec X.ow (X.ts _ h4) (ke K).platform hpl
    obtain ⟨c1, c2, g1, g2, g3⟩ := hnf _ h5
    cases haf.symm.trans g1
    cases hc.symm.trans g2
    exact ⟨cov y _ rfl h1 h2, h3, c, hcl, g3⟩) hx'
  have hhp : x'.handlerPc = x.2.2.1 := by rw [← e5]
  obtain ⟨t, t1, t2⟩ := k a ls H locs hl hP hD hS (T.setVm vm') hT X'
  refine ⟨t, hgo t ?_, t2⟩
  have e6 : ({ F0 (km K) pc ls st with pc := x'.handlerPc, stack := [.ref a] } : JFrame) = F0 (km K) x.2.2.1 ls [.ref a] := by rw [hhp]
  rw [e6]
  exact t1
/-- the callee throws, and its world is a part of the caller's -/
theorem b_callTA {y : MethodName} {bytes : ByteArray} {maxL n index b : Nat} {ret : Option FieldType} {rm' : Room} {As rest st0 : List Value} {post' : va_W → Prop} {wl wc wr : va_W} (X : Bd K G w0 own cc nL rt rm) (C : CF y bytes maxL ret n) (hi : Cond.instanceMethod y ∈ WS ∧ Cond.selects y.cls y y ∈ WS) (ml : Cond.methodLink own index y ∈ WS) (hw : w = wl ++ (wc ++ wr)) (ct : CtT y bytes maxL ret rm' G (.ref b :: As) wc cls post') (q0 : Nat) {ci : Nat} {fs : List Value} {T0 : u_T} {N : Nat} (he : wc[q0]? = some (b, .inr (ci, fs))) (hc : classes[ci]? = some (y.cls, T0, N)) (hn : As.length = n) (hst : (rest.map fun v => v.category).sum ≤ 8) (hR : rm'.frames + 1 ≤ rm.frames ∧ 8 + (maxL + 11) + rm'.locals ≤ rm.locals) (hf : cells + rm'.cells ≤ rm.cells ∧ slots + rm'.slots ≤ rm.slots) (hs0 : st0 = As.reverse ++ .ref b :: rest) (d : decode cc pc = .ok (.invokevirtual index, 3))
    (k : ∀ w', post' w' → Lz K G w0 Q nL pc lv rest cls (wl ++ (w' ++ wr)) (cells + rm'.cells) (slots + rm'.slots)) : Lb K G w0 Q nL pc lv st0 w cells slots := by
  subst hw
  intro ls H locs hl hP0 hD0 hS T hT Y
  have hP := va_P_l (va_P_r hP0)
  have hD := va_D_l (va_D_r hD0)
  subst hs0
  obtain ⟨cellB, hcB, hoB, hclB⟩ := va_recv X.g.1 hP hc he
  obtain ⟨mk, methM, hnamed, hmethM, hstM, habM⟩ := Cond.instanceMethod_spec (X.ts _ hi.1)
  obtain ⟨methM', cM, hmethM', -, -, -, -, -, -, hsigM⟩ := Cond.code_spec hnamed (X.ts _ C.1)
  cases hmethM.symm.trans hmethM'
  obtain ⟨c2, r2, m2, q1, q2, q3, q4, kP, hkP, hkPi⟩ := Cond.selects_spec (X.ts _ hi.2)
  cases hclB.symm.trans q1
  cases (State.methodFound?_of_named hnamed C.2.2.1).symm.trans q2
  cases hnamed.symm.trans q3
  have hselP : selectMethod (ke K).platform (ks K).vm cellB.cls mk = .method mk := by rw [Launch.admits_selectMethod Y.admits]; exact q4
  have hlen : As.length = methM.sig.parameters.length := by
    have h2 := C.2.2.2
    rw [hsigM] at h2
    rw [hn]; exact (Option.some.inj h2).symm
  obtain ⟨vm₁, X₁, hstep₁⟩ := Y.invokevirtual X.x X.ow (X.ts _ ml) hnamed hmethM hstM hkP hkPi C.2.2.1 (a := b) (cell := cellB) (by rw [hT]; exact hcB)
    (fun z h => by rw [h] at hoB; cases hoB) hselP hmethM habM hkP hkPi (g := F0 (km K) pc ls (As.reverse ++ .ref b :: rest)) rfl (argsL := As) (rest := rest) hlen rfl (by rw [X.b]; exact d)
  have hWm : (ks K).WarmedH (T.setVm vm₁).vm := X₁.warmed
  have hM : MetFree (kl K) y (headSpec (.code y bytes maxL ret :: WS) rm') (va_Pc (.ref b :: As) (Pm G wc H.size)) (fun _ _ _ _ _ => True) (fun a st o t => (Qt G wc H.size cls post' a st o t ∧ ∃ x, o = .threw x) ∧ st.WarmedH t.vm ∧ ∃ L, st.sameButNew ({ t with vm := st.vm } : State) L rm'.cells rm'.slots ∧ ∀ q ∈ L, va_A wc H.size q.base) := by
    intro p e ha hcas hck s m args below hfr happ hpp _
    obtain ⟨k1, o, h1, h2, h3, h4, h5⟩ := ct (kl K) X.lok H.size p e ha hcas hck s m args below hfr happ hpp trivial
    have h6 := h4
    obtain ⟨⟨x, w', cell, hox, -⟩, -⟩ := h6
    exact ⟨k1, o, h1, h2, h3, ⟨h4, x, hox⟩, h5⟩
  have hwd : ∀ w ∈ (.code y bytes maxL ret :: WS : List Cond), w.before (Value.ref b :: As).toArray (T.setVm vm₁) = true := fun w hw => by
    rcases List.mem_cons.mp hw with rfl | h
    · exact word_at hWm (Or.inl rfl) (X.ts _ C.1)
    · exact word_at hWm (WS_good w h) (X.ts w h)
  obtain ⟨x, T', t, L, X', hL, e1, e2, hq, hWT, hsteps⟩ := th_call X₁ hM (g := F0 (km K) pc ls rest) (ig := .invokevirtual index) (mk := mk) (a := (Value.ref b :: As).toArray) (bytes := bytes) (maxL := maxL) (ret := ret) rfl (by rw [X.ml]; exact hl.1) (by rw [X.b]; exact d) (lv_room hst) (X₁.named hnamed) hwd (hwd _ List.mem_cons_self) (word_at hWm (WS_good _ C.2.1) (X.ts _ C.2.1)) (by rw [X.ro]; exact hR) (by rw [X.ro]; exact hf)
    (Pm.blind _ _ _ _ ⟨rfl, Pm.pre X hP hD hS (T.setVm vm₁) hT hWm⟩)
  obtain ⟨⟨x2, w', cell, hox, hpw, hP1, hD1, hxc, hxs, hxf⟩, hz, hk⟩ := hq
  cases hox
  have h0 : ((T.setVm vm₁).calling (F0 (km K) pc ls rest) mk (Value.ref b :: As).toArray).heap = H := hT
  rw [h0] at hz hk
  have hF : ∀ q, va_A wc H.size q → va_A w0 (ks K).heap.size q := fun q h => by
    rcases h with ⟨k, e, h⟩ | h
    · exact hD.2 k _ h
    · exact Or.inr (Nat.le_trans hS.1 h)
  have hfc : (ks K).vm.findClass cls = some cell.cls := by
    rw [← hWm.alike.findClass]; exact hxf
  obtain ⟨hPj, hDj⟩ := va_mid hP0 hD0 (fun q h1 h2 => hk q h1 h2) hF hP1 hD1
  obtain ⟨t2, a1, b1⟩ := k w' hpw ls T'.heap (locs ++ L) x cell hl (by rw [e1]; exact hPj) hDj
    ⟨Nat.le_trans hS.1 (by rw [e1]; exact hz), fun q h1 h2 => by rw [e1, hk q (Nat.lt_of_lt_of_le h1 hS.1) (fun z => h2 (hF q z))]; exact hS.2.1 q h1 h2, fun q hq => by
      rcases List.mem_append.mp hq with h | h
      · exact hS.2.2 q h
      · exact hF _ (hL q h)⟩ (by rw [e1]; exact hxc) hxs hfc T' rfl X'
  exact ⟨t2, hstep₁ _ (fun acts => by rw [doInvoke_state]; exact hsteps.trans a1), b1⟩
end R14b
