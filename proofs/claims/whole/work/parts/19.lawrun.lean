/-! the law's run: its start, its loop, its end -/
def R_law : String := "FirstTreesLaw"
def lw_P (b : Addr) (xs : List Int32) (args : Array Value) (s : State) : Prop := args = #[.ref b] ∧ s.IntsAt b xs ∧ xs.length ≤ 1536 ∧ (Jvm.Cond.and given_1 narrow_1).before args s = true
def lw_Q (_ : Array Value) (s : State) (o : Outcome) (t : State) : Prop := o = .returned (some (.int 1)) ∧ Framed s o t [] 601024 7293034
def lw_Z (below : List Frame) (a : Array Value) (s : State) : State → Prop := fun t => ∃ o, t.status = .running ∧ Ended t below o ∧ lw_Q a s o t
/-- the law's own end, with 1 on the stack, nothing written that was there before, its room as the claim has it -/
theorem lw_ret {p : Program} {l : Launch} {e : Env} {s : State} {m : MethodId} {below : List Frame} {meth : Method} {c : Code} {b : Nat} (hx : p.tables.exec = Jvm.exec) (hb : c.code = code) (hr : meth.sig.returnType = ret) (hlocks : meth.locks = false) {pc : Nat} {H : Heap} {ls : Array Slot} (hdg : decode code pc = .ok (.ireturn, 1)) : W p l e room_1 s m #[Value.ref b] below meth c H [] 601024 7293034 (lw_Z below #[Value.ref b] s) (F0 m pc ls [.int 1]) := by
  intro T hT X
  obtain ⟨fs, hret, hrun, hended, hW, hframe⟩ := X.leave (v := some (.int 1)) (hlocks := hlocks) (fun h => by rw [hr] at h; cases h)
  have hmeth' : T.vm.method? m = some meth := X.method'
  refine ⟨T.setFrames fs, ?_, .returned (some (.int 1)), hrun, hended, rfl, ⟨_, rfl⟩, hW, hframe⟩
  jvm_step X.here [X.here.top, hx, hb, hdg, hmeth', hr, ret, narrow_b1]
  (try refine ⟨rfl, ?_⟩); (try refine ⟨rfl, ?_⟩)
  first | (intro acts; rw [hret _ acts rfl rfl rfl]) | rw [hret _ _ rfl rfl rfl]
  exact Steps.refl _
/-- what holds at the law's entry: the machine, the code, the tables' words (any of lw_tbl by 'hts w (by decide +kernel)'), the script of L ints xs at the cell b, what the Statement gives of the start (any of its parts by flat_of_before) -/
def lw_At (p : Program) (s : State) (m : MethodId) (meth : Method) (c : Code) (b L : Nat) (xs : Nat → Int32) : Prop :=
  p.tables.exec = Jvm.exec ∧ c.code = code ∧ meth.sig.returnType = ret ∧ c.maxLocals = 8 ∧ s.vm.findClass R_law = some m.cls ∧ (∀ w ∈ lw_tbl, w.before #[Value.ref b] s = true) ∧ va_X b L xs s s.heap ∧ b < s.heap.size ∧ meth.locks = false ∧ (Jvm.Cond.and given_1 narrow_1).before #[Value.ref b] s = true
section R19
variable {K : KX} {G : GG} {w0 w : va_W} {Q : State → Prop} {own : String} {cc : ByteArray} {nL pc cells slots : Nat} {rt : Option FieldType} {rm : Room} {lv : List (Nat × Value)} {st : List Value}
theorem b_swap {u v : va_W} (k : Lb K G w0 Q nL pc lv st (v ++ u) cells slots) : Lb K G w0 Q nL pc lv st (u ++ v) cells slots := fun ls H locs hl hP hD hS =>
  k ls H locs hl ((va_P_r hP).app (va_P_l hP)) ((va_D_r hD).app (va_D_l hD) (fun i j p q hi hj e => va_D_x hD j i q p hj hi e.symm)) hS
end R19
set_option maxRecDepth 20000 in
theorem law_K {args : Array Value} {s : State} (hts : ∀ w ∈ WS, w.before args s = true) (hao : va_AO "FirstTrees$Pending" s) : ∃ G : GG, va_K G.1 classes (tyL G) s := by
  obtain ⟨c0, i0, u0⟩ := u_known hts in_F (hts _ (ws_1 21 rfl rfl))
  obtain ⟨c1, i1, u1⟩ := u_known hts in_G (hts _ (ws_1 29 rfl rfl))
  obtain ⟨c2, i2, u2⟩ := u_known hts in_S (hts _ (ws_1 49 rfl rfl))
  obtain ⟨c3, i3, u3⟩ := u_known hts in_I (hts _ (ws_1 84 rfl rfl))
  obtain ⟨c4, i4, u4⟩ := u_known hts in_C (hts _ (ws_1 97 rfl rfl))
  obtain ⟨c5, i5, u5⟩ := u_known hts in_Y (hts _ (ws_1 143 rfl rfl))
  obtain ⟨c6, i6, u6⟩ := u_known hts in_K (hts _ (ws_1 169 rfl rfl))
  obtain ⟨c7, i7, u7⟩ := u_known hts in_T (hts _ (ws_1 199 rfl rfl))
  obtain ⟨c8, i8, u8⟩ := u_known hts in_P (hts _ (ws_3 165 rfl rfl))
  obtain ⟨c9, i9, u9⟩ := u_known hts in_M (hts _ (ws_4 166 rfl rfl))
  obtain ⟨aI, kI, pI, I1, I2, I3⟩ := Cond.arrayClass_spec (hts _ kA_int)
  obtain ⟨aJ, kJ, pJ, J1, J2, J3⟩ := Cond.arrayClass_spec (hts _ kA_long)
  obtain ⟨aZ, kZ, pZ, Z1, Z2, Z3⟩ := Cond.arrayClass_spec (hts _ kA_bool)
  obtain ⟨comp, aP, kP, P1, P2, P3, P4, P5⟩ := Cond.arrayOver_spec hao
  refine ⟨((fun k => ([c0, c1, c2, c3, c4, c5, c6, c7, c8, c9] : List ClassId).getD k 0, fun k => ([i0, i1, i2, i3, i4, i5, i6, i7, i8, i9] : List (Nat → Nat)).getD k (fun _ => 0)), fun k => ([aI, aJ, aZ, aP] : List ClassId).getD k 0), fun c q hq => ?_, fun k q hk => ?_⟩
  · match c, hq with
    | 0, hq => cases hq; exact u0
    | 1, hq => cases hq; exact u1
    | 2, hq => cases hq; exact u2
    | 3, hq => cases hq; exact u3
    | 4, hq => cases hq; exact u4
    | 5, hq => cases hq; exact u5
    | 6, hq => cases hq; exact u6
    | 7, hq => cases hq; exact u7
    | 8, hq => cases hq; exact u8
    | 9, hq => cases hq; exact u9
    | (n + 10), hq => cases hq
  · match k, hk with
    | 0, hk => cases hk; exact ⟨fun n z => ⟨fun k h => (by cases h), kI, I2, pI, I3⟩, I1⟩
    | 1, hk => cases hk; exact ⟨fun n z => ⟨fun k h => (by cases h), kJ, J2, pJ, J3⟩, J1⟩
    | 2, hk => cases hk; exact ⟨fun n z => ⟨fun k h => (by cases h), kZ, Z2, pZ, Z3⟩, Z1⟩
    | 3, hk => cases hk; exact ⟨fun n z => ⟨fun k h => (by cases h), kP, P3, comp, P4⟩, kP, comp, P3, P4, P1, P5⟩
    | (n + 4), hk => cases hk
set_option maxRecDepth 20000 in
theorem law_gf {args : Array Value} {s : State} (hts : ∀ w ∈ lw_tbl, w.before args s = true) (hgv : (Jvm.Cond.and given_1 narrow_1).before args s = true) : (∃ G : GG, gf G s) ∧ sf s ∧ nf s ∧ ∀ w ∈ WS, w.before args s = true := by
  have hW : ∀ w ∈ WS, w.before args s = true := fun w hw => hts w (List.mem_filter.mp hw).1
  have hn := flat_of_before _ hgv
  have hN : ∀ w ∈ NW, va_Nw w s := fun w hw => va_Nw.of ((by decide +kernel : ∀ w ∈ NW, w.onTables = true) w hw) (hts w (List.mem_append_right _ ((by decide +kernel : ∀ w ∈ NW, w ∈ tables_1) w hw)))
  have hao : va_AO "FirstTrees$Pending" s := hts _ (List.mem_append_right _ (List.mem_of_getElem? (i := 175) rfl))
  have hS : ∀ q ∈ SR, ∃ a, vk_R q.1 q.2.1 q.2.2 a s := fun q hq => by
    have h1 : (Cond.stringRef q.1 q.2.1 q.2.2).before args s = true := hts _ (List.mem_append_right _ ((by decide +kernel : ∀ q ∈ SR, Cond.stringRef q.1 q.2.1 q.2.2 ∈ tables_1) q hq))
    have h2 := hn _ ((by decide +kernel : ∀ q ∈ SR, Cond.exactly (.string q.1 q.2.1) "java/lang/String" ∈ flatC (Jvm.Cond.and given_1 narrow_1)) q hq)
    obtain ⟨a, c, cA, kA, q1, -⟩ := Cond.exactly_spec (args := args) (first := s) (o := none) (s := s) (idx := []) h2
    exact ⟨a, vk_R.of h1 q1⟩
  obtain ⟨G, hK⟩ := law_K hW hao
  refine ⟨⟨G, hK, hN, hS, hao⟩, ⟨isr_args (hn _ (by decide +kernel)), isr_args (hn _ (by decide +kernel)), lst_args (hts _ (List.mem_append_right _ (by decide +kernel))), lst_args (hts _ (List.mem_append_right _ (by decide +kernel)))⟩, nf.of (args := args) (fun q hq => hn _ ((by decide +kernel : ∀ q ∈ NC, Cond.not (.castable q.1 q.2) ∈ flatC (Jvm.Cond.and given_1 narrow_1)) q hq)), hW⟩
set_option maxRecDepth 20000 in
theorem law_start {K : KX} {G : GG} {Q : State → Prop} {b : Nat} (X : Bd K G [] "FirstTreesLaw" code 8 ret room_1)
    (k : ∀ (a a' : Nat → Nat) (o : Nat), Lb K G [] Q 8 23 [(0, .ref b), (1, .ref (a 0)), (2, .ref (a' 0)), (3, .ref o), (4, .int (nI 0))] [] (ow G o (fun _ => 0) :: (WC G (s0 a) ++ WM G (s0 a'))) 50 261749) : Lb K G [] Q 8 0 [(0, .ref b)] [] [] 0 0 := by
  refine b_new X (ci := 0) (fs := [.null, .null, .null, .null, .null, .null, .null, .null]) in_F tq_F ty_F (ws_1 20 rfl rfl) (ws_1 21 rfl rfl) (ws_1 1 rfl rfl) rfl (by decide) (by decide) (by decide) d_L_law_0 (fun q0 => ?_)
  refine b_dup X d_L_law_3 rfl ?_
  refine b_callIA (wl := []) (wr := []) X cf_F_init ci_F_init rfl ml_L_65 rfl (cm_F_init G q0) (As := []) (rest := [.ref q0]) rfl (Nat.le_of_ble_eq_true rfl) ⟨by decide, by decide⟩ ⟨by decide, by decide⟩ rfl d_L_law_4 (fun v w' hp => ?_)
  obtain ⟨rfl, a, rfl, ha⟩ := hp
  subst ha
  refine Lb.eq (st' := [.ref (a 0)]) (w' := WC G (s0 a)) rfl rfl (by rw [List.append_nil]; rfl) ?_
  refine b_astore_n X d_L_law_7 rfl (by decide) [1, 0] rfl ?_
  refine b_new X (ci := 9) (fs := [.int 0, .int 0, .null, .null, .null, .null, .null, .null, .int 0, .null, .int 0, .null, .null, .null, .null, .null, .null, .null, .null, .int 0, .null, .null, .int 0, .int 0, .null, .null, .null, .int 0]) in_M tq_M ty_M (ws_4 165 rfl rfl) (ws_4 166 rfl rfl) (ws_1 9 rfl rfl) rfl (by decide) (by decide) (by decide) d_L_law_8 (fun q1 => ?_)
  refine b_dup X d_L_law_11 rfl ?_
  refine b_callIA (wl := WC G (s0 a)) (wr := []) X cf_M_init ci_M_init rfl ml_L_68 (by rw [List.append_nil]) (cm_M_init G q1) (As := []) (rest := [.ref q1]) rfl (Nat.le_of_ble_eq_true rfl) ⟨by decide, by decide⟩ ⟨by decide, by decide⟩ rfl d_L_law_12 (fun v w' hp => ?_)
  obtain ⟨rfl, a', rfl, ha'⟩ := hp
  subst ha'
  refine Lb.eq (st' := [.ref (a' 0)]) (w' := WC G (s0 a) ++ WM G (s0 a')) rfl rfl (by rw [List.append_nil]) ?_
  refine b_astore_n X d_L_law_15 rfl (by decide) [1, 2, 0] rfl ?_
  refine b_iconst X (v := 1) d_L_law_16 (by decide) ?_
  refine b_newl X 1 (by decide) (by decide) (by decide) (by decide) d_L_law_17 (fun o => ?_)
  refine b_swap ?_
  refine b_astore_n X d_L_law_19 rfl (by decide) [1, 2, 3, 0] rfl ?_
  refine b_iconst X (v := 0) d_L_law_20 (by decide) ?_
  refine b_istore X d_L_law_21 (by decide) [1, 2, 3, 4, 0] rfl ?_
  exact k a a' o
theorem law_gt {L i : Nat} (hL : L ≤ 1536) (hi : i < 2 ^ 20) : nI L - 3 < nI i ↔ L < i + 3 := by
  rw [Int32.lt_iff_toInt_lt, show (3 : Int32) = nI 3 from rfl, pk_sub_toInt (by omega) (by omega), nI_toInt (by omega)]
  omega
abbrev LW (K : KX) (G : GG) (b a0 m0 o : Nat) (i : Nat) (σ τ : St) (f : Nat → Int64) (cells slots : Nat) : Prop :=
  Lb K G [] (lw_Z (kb K) #[Value.ref b] (ks K)) 8 23 [(0, .ref b), (1, .ref a0), (2, .ref m0), (3, .ref o), (4, .int (nI i))] [] (ow G o f :: (WC G σ ++ WM G τ)) cells slots
theorem law_end {K : KX} {G : GG} {b : Nat} {pcs : List (Nat × Value)} {w : va_W} {cells slots : Nat} (X : Bd K G [] "FirstTreesLaw" code 8 ret room_1) (hka : ka K = #[Value.ref b]) (hkr : kr K = room_1) (h1 : cells ≤ 601024) (h2 : slots ≤ 7293034) : Lb K G [] (lw_Z (kb K) #[Value.ref b] (ks K)) 8 950 pcs [] w cells slots := by
  refine b_iconst X (v := 1) d_L_law_950 (by decide) ?_
  intro ls H locs hl hP hD hS
  refine va_forget (fun q hq => ?_) (W.widen h1 h2 ?_)
  · rcases hS.2.2 q hq with ⟨k, e, h⟩ | h
    · cases k <;> cases h
    · exact h
  · rw [hka, hkr]
    exact lw_ret X.x X.b X.re X.lk d_L_law_951
/-- the loop: a step's theorem, by the invariant, gives the run -/
theorem law_loop {K : KX} {G : GG} {b L : Nat} {xs : Nat → Int32} (X : Bd K G [] "FirstTreesLaw" code 8 ret room_1) (hka : ka K = #[Value.ref b]) (hX : va_X b L xs (ks K) (ks K).heap) (hbl : b < (ks K).heap.size) (hL : L ≤ 1536) (a0 m0 o : Nat) (Inv : Nat → St → St → (Nat → Int64) → Nat → Nat → Prop)
    (hb : ∀ i σ τ f cells slots, Inv i σ τ f cells slots → cells ≤ 601024 ∧ slots ≤ 7293034)
    (hs : ∀ i σ τ f cells slots, Inv i σ τ f cells slots → xa σ 0 = a0 → xa τ 0 = m0 → i + 3 ≤ L → ¬ nI L - 3 < nI i →
      (∀ σ' τ' f' cells' slots', Inv (i + 3) σ' τ' f' cells' slots' → xa σ' 0 = a0 → xa τ' 0 = m0 → LW K G b a0 m0 o (i + 3) σ' τ' f' cells' slots') → LW K G b a0 m0 o i σ τ f cells slots) :
    ∀ (n i : Nat) (σ τ : St) (f : Nat → Int64) (cells slots : Nat), L ≤ n + i → i < 2 ^ 19 → Inv i σ τ f cells slots → xa σ 0 = a0 → xa τ 0 = m0 → LW K G b a0 m0 o i σ τ f cells slots := by
  have fin : ∀ (i : Nat) (σ τ : St) (f : Nat → Int64) (cells slots : Nat), i < 2 ^ 19 → L < i + 3 → Inv i σ τ f cells slots → LW K G b a0 m0 o i σ τ f cells slots := by
    intro i σ τ f cells slots hi h hI
    have hgt : nI L - 3 < nI i := (law_gt hL (by omega)).mpr h
    refine b_iload X d_L_law_23 4 rfl ?_
    refine b_aload_n X d_L_law_25 0 rfl rfl ?_
    refine b_slen X hX hbl d_L_law_26 ?_
    refine b_iconst X (v := 3) d_L_law_27 (by decide) ?_
    refine b_isub X d_L_law_28 ?_
    refine b_icmp_gt X (tgt := 950) d_L_law_29 (by decide) (fun _ => ?_) (fun h => absurd hgt h)
    exact law_end X hka X.ro (hb i σ τ f cells slots hI).1 (hb i σ τ f cells slots hI).2
  intro n
  induction n with
  | zero =>
    intro i σ τ f cells slots h hi hI _ _
    exact fin i σ τ f cells slots hi (by omega) hI
  | succ n ih =>
    intro i σ τ f cells slots h hi hI h1 h2
    by_cases hlt : L < i + 3
    · exact fin i σ τ f cells slots hi hlt hI
    · refine hs i σ τ f cells slots hI h1 h2 (by omega) (fun z => hlt ((law_gt hL (by omega)).mp z)) (fun σ' τ' f' c' s' hI' g1 g2 => ?_)
      exact ih (i + 3) σ' τ' f' c' s' (by omega) (by omega) hI' g1 g2
