/-! rows for the walk: arrays of references, fields by the nest; pending symbols in the world -/
def FLN (own : String) (index ci : Nat) (C : String) (T : u_T) (N k : Nat) (host : String) : Prop := (∀ w ∈ u_ws C T N, w ∈ WS) ∧ classes[ci]? = some (C, T, N) ∧ k < N ∧ Cond.fieldLinkNest own index (T k).1 (T k).2.1 (T k).2.2.1 host ∈ NW
theorem fn_51 : FLN "FirstTrees$Walk" 51 8 "FirstTrees$Pending" Tq_P 3 0 "FirstTrees" := ⟨in_P, rfl, by decide, List.mem_of_getElem? (i := 16) rfl⟩
theorem fn_64 : FLN "FirstTrees$Walk" 64 8 "FirstTrees$Pending" Tq_P 3 1 "FirstTrees" := ⟨in_P, rfl, by decide, List.mem_of_getElem? (i := 17) rfl⟩
theorem fn_121 : FLN "FirstTrees$Walk" 121 8 "FirstTrees$Pending" Tq_P 3 2 "FirstTrees" := ⟨in_P, rfl, by decide, List.mem_of_getElem? (i := 18) rfl⟩
section R54
variable {K : KX} {G : GG} {w0 w : va_W} {Q : State → Prop} {own : String} {cc : ByteArray} {nL pc cells slots : Nat} {rt : Option FieldType} {rm : Room} {lv : List (Nat × Value)} {st : List Value}
theorem b_aald (X : Bd K G w0 own cc nL rt rm) (q0 : Nat) {a n : Nat} {f : Nat → Option Nat} (ha : w[q0]? = some (a, .inl (G.2 3, n, .inr (.inr (.inr (.inr f)))))) (hn : n < 2 ^ 31) {i : Int32} (j : Nat) (hi : i = nI j) (hj : j < n) {v : Value} (hv : va_rf (f j) = v) (d : decode cc pc = .ok (.aaload, 1)) (kk : Lb K G w0 Q nL (pc + 1) lv (v :: st) w cells slots) : Lb K G w0 Q nL pc lv (.int i :: .ref a :: st) w cells slots := by
  intro ls H locs hl hP hD hS
  obtain ⟨h1, h2⟩ := nI_in1 hi hj hn
  subst hv
  refine va_aldq X.x X.b X.g.1 hP q0 3 ha rfl h1 d ?_
  rw [h2]
  exact kk ls H locs hl hP hD hS
theorem b_aast (X : Bd K G w0 own cc nL rt rm) (q0 qk : Nat) {a n v : Nat} {vs : List Value} {f : Nat → Option Nat} (ha : w[q0]? = some (a, .inl (G.2 3, n, .inr (.inr (.inr (.inr f)))))) (hn : n < 2 ^ 31) {i : Int32} (j : Nat) (hi : i = nI j) (hj : j < n) (hv : w[qk]? = some (v, .inr (8, vs))) {w' : va_W} (hw : w.set q0 (a, .inl (G.2 3, n, .inr (.inr (.inr (.inr (va_up f j (some v))))))) = w') (d : decode cc pc = .ok (.aastore, 1)) (kk : Lb K G w0 Q nL (pc + 1) lv st w' cells slots) : Lb K G w0 Q nL pc lv (.ref v :: .int i :: .ref a :: st) w cells slots := by
  intro ls H locs hl hP hD hS
  obtain ⟨h1, h2⟩ := nI_in1 hi hj hn
  subst hw
  refine va_astq X.x X.b X.g.1 hP hD hS q0 3 qk 8 (r := ("FirstTrees$Pending", Tq_P, 3)) ha rfl hv rfl h1 d ?_
  rw [h2]
  exact fun H1 locs1 hP1 hD1 hS1 => kk ls H1 locs1 hl hP1 hD1 hS1
theorem b_ifnn (X : Bd K G w0 own cc nL rt rm) {x : Nat} {off : Int} {tgt : Nat} (d : decode cc pc = .ok (.ifnonnull off, 3)) (ht : (pc : Int) + off = (tgt : Int)) (k : Lb K G w0 Q nL tgt lv st w cells slots) : Lb K G w0 Q nL pc lv (.ref x :: st) w cells slots :=
  fun ls H locs hl hP hD hS => lv_ifnonnull X.x X.b d ht (k ls H locs hl hP hD hS)
theorem b_ifnnN (X : Bd K G w0 own cc nL rt rm) {off : Int} (d : decode cc pc = .ok (.ifnonnull off, 3)) (k : Lb K G w0 Q nL (pc + 3) lv st w cells slots) : Lb K G w0 Q nL pc lv (.null :: st) w cells slots :=
  fun ls H locs hl hP hD hS => lv_ifnonnullN X.x X.b d (k ls H locs hl hP hD hS)
theorem b_getN (X : Bd K G w0 own cc nL rt rm) {C host : String} {T : u_T} {N ci index k a : Nat} (F : FLN own index ci C T N k host) (q0 : Nat) {fs : List Value} (he : w[q0]? = some (a, .inr (ci, fs))) {v : Value} (hv : fs[k]? = some v) (d : decode cc pc = .ok (.getfield index, 3)) (kk : Lb K G w0 Q nL (pc + 3) lv (v :: st) w cells slots) : Lb K G w0 Q nL pc lv (.ref a :: st) w cells slots :=
  fun ls H locs hl hP hD hS => va_getN X.x X.b X.ts F.1 X.ow X.g.1 hP q0 he F.2.1 k F.2.2.1 (va_Nw.use rfl (X.g.2.1 _ F.2.2.2)) (fun _ h => h) hv d (kk ls H locs hl hP hD hS)
theorem b_putN (X : Bd K G w0 own cc nL rt rm) {C host : String} {T : u_T} {N ci index k a : Nat} {ty : FieldType} (F : FLN own index ci C T N k host) (P : PL ci C T N k ty) (q0 : Nat) {fs : List Value} (he : w[q0]? = some (a, .inr (ci, fs))) {v : Value} (hn : narrow ty v = v) (hfit : fits ty v = true) (hlen : k < fs.length) {w' : va_W} (hw : w.set q0 (a, .inr (ci, fs.set k v)) = w') (d : decode cc pc = .ok (.putfield index, 3)) (kk : Lb K G w0 Q nL (pc + 3) lv st w' cells slots) : Lb K G w0 Q nL pc lv (v :: .ref a :: st) w cells slots := by
  intro ls H locs hl hP hD hS
  obtain ⟨ty0, hty, hnm, hfin, hd⟩ := P
  subst hw
  exact va_putN X.x X.b X.ts F.1 ty0 hty hnm X.ow X.g.1 hP hD hS q0 he F.2.1 k F.2.2.1 (va_Nw.use rfl (X.g.2.1 _ F.2.2.2)) (fun _ h => h) hfin hd hn hfit hlen d (fun H1 locs1 hP1 hD1 hS1 => kk ls H1 locs1 hl hP1 hD1 hS1)
end R54
/-! a row of pairs -/
theorem fl_s {α : Type} (a b : Nat → α) (n : Nat) : (List.range (n + 1)).flatMap (fun i => [a i, b i]) = (List.range n).flatMap (fun i => [a i, b i]) ++ [a n, b n] := by
  rw [List.range_succ, List.flatMap_append]; simp
theorem fl_len {α : Type} (a b : Nat → α) (n : Nat) : ((List.range n).flatMap (fun i => [a i, b i])).length = 2 * n := by
  induction n with
  | zero => rfl
  | succ n ih => rw [fl_s, List.length_append, ih]; rfl
theorem fl_g0 {α : Type} (a b : Nat → α) {n i : Nat} (h : i < n) : ((List.range n).flatMap (fun i => [a i, b i]))[2 * i]? = some (a i) := by
  induction n with
  | zero => omega
  | succ n ih =>
    rw [fl_s]
    by_cases e : i = n
    · subst e
      rw [List.getElem?_append_right (by rw [fl_len]; omega), fl_len, Nat.sub_self]; rfl
    · rw [List.getElem?_append_left (by rw [fl_len]; omega)]; exact ih (by omega)
theorem fl_g1 {α : Type} (a b : Nat → α) {n i : Nat} (h : i < n) : ((List.range n).flatMap (fun i => [a i, b i]))[2 * i + 1]? = some (b i) := by
  induction n with
  | zero => omega
  | succ n ih =>
    rw [fl_s]
    by_cases e : i = n
    · subst e
      rw [List.getElem?_append_right (by rw [fl_len]; omega), fl_len, show 2 * i + 1 - 2 * i = 1 from by omega]; rfl
    · rw [List.getElem?_append_left (by rw [fl_len]; omega)]; exact ih (by omega)
theorem fl_c {α : Type} {a b a' b' : Nat → α} {n : Nat} (h : ∀ i, i < n → a i = a' i ∧ b i = b' i) : (List.range n).flatMap (fun i => [a i, b i]) = (List.range n).flatMap (fun i => [a' i, b' i]) := by
  induction n with
  | zero => rfl
  | succ n ih => rw [fl_s, fl_s, ih (fun i hi => h i (by omega)), (h n (by omega)).1, (h n (by omega)).2]
theorem fl_t0 {α : Type} {a b a' : Nat → α} {n i : Nat} (h : i < n) (z : α) (h1 : a' i = z) (h2 : ∀ j, j ≠ i → a' j = a j) : ((List.range n).flatMap (fun i => [a i, b i])).set (2 * i) z = (List.range n).flatMap (fun i => [a' i, b i]) := by
  induction n with
  | zero => omega
  | succ n ih =>
    rw [fl_s, fl_s]
    by_cases e : i = n
    · subst e
      rw [List.set_append_right _ _ (by rw [fl_len]; omega), fl_len, Nat.sub_self, fl_c (b' := b) (fun j hj => ⟨(h2 j (by omega)).symm, rfl⟩), ← h1]; rfl
    · rw [List.set_append_left _ _ (by rw [fl_len]; omega), ih (by omega), h2 n (fun q => e q.symm)]
theorem fl_t1 {α : Type} {a b b' : Nat → α} {n i : Nat} (h : i < n) (z : α) (h1 : b' i = z) (h2 : ∀ j, j ≠ i → b' j = b j) : ((List.range n).flatMap (fun i => [a i, b i])).set (2 * i + 1) z = (List.range n).flatMap (fun i => [a i, b' i]) := by
  induction n with
  | zero => omega
  | succ n ih =>
    rw [fl_s, fl_s]
    by_cases e : i = n
    · subst e
      rw [List.set_append_right _ _ (by rw [fl_len]; omega), fl_len, show 2 * i + 1 - 2 * i = 1 from by omega, fl_c (a' := a) (fun j hj => ⟨rfl, (h2 j (by omega)).symm⟩), ← h1]; rfl
    · rw [List.set_append_left _ _ (by rw [fl_len]; omega), ih (by omega), h2 n (fun q => e q.symm)]
/-- the component's 28 cells -/
def WC0 (G : GG) (σ : St) : va_W := (WC G σ).take 28
theorem WC_app (G : GG) (σ : St) : WC G σ = WC0 G σ ++ pnd G σ := rfl
theorem WC0_len (G : GG) (σ : St) : (WC0 G σ).length = 28 := rfl
theorem pg_o (G : GG) (σ : St) {i : Nat} (h : i < xn σ) : (WC G σ)[28 + 2 * i]? = some (xa σ (28 + 2 * i), .inr (8, [.int (xp σ (2 * i) 0), .int (xp σ (2 * i) 1), .ref (xa σ (29 + 2 * i))])) := by
  rw [WC_app, List.getElem?_append_right (by rw [WC0_len]; omega), WC0_len, show 28 + 2 * i - 28 = 2 * i from by omega]
  exact fl_g0 _ _ h
theorem pg_a (G : GG) (σ : St) {i : Nat} (h : i < xn σ) : (WC G σ)[29 + 2 * i]? = some (xa σ (29 + 2 * i), .inl (G.2 0, 61, .inl (xp σ (2 * i + 1)))) := by
  rw [WC_app, List.getElem?_append_right (by rw [WC0_len]; omega), WC0_len, show 29 + 2 * i - 28 = 2 * i + 1 from by omega]
  exact fl_g1 _ _ h
theorem xst_lt {σ : St} {i : Nat} (h : i < xn σ) : va_rf (xst σ i) = .ref (xa σ (28 + 2 * i)) := by
  show va_rf (if i < xn σ then some (xa σ (28 + 2 * i)) else none) = _
  rw [if_pos h]; rfl
theorem xst_ge {σ : St} {i : Nat} (h : ¬ i < xn σ) : va_rf (xst σ i) = .null := by
  show va_rf (if i < xn σ then some (xa σ (28 + 2 * i)) else none) = _
  rw [if_neg h]; rfl
theorem ps_0 (G : GG) (σ : St) {i : Nat} (h : i < xn σ) (v : Int32) : (WC G σ).set (28 + 2 * i) (xa σ (28 + 2 * i), .inr (8, ([.int (xp σ (2 * i) 0), .int (xp σ (2 * i) 1), .ref (xa σ (29 + 2 * i))] : List Value).set 0 (.int v))) = WC G (wp σ (2 * i) 0 v) := by
  rw [WC_app, WC_app, List.set_append_right _ _ (by rw [WC0_len]; omega), WC0_len, show 28 + 2 * i - 28 = 2 * i from by omega]
  refine congrArg (WC0 G σ ++ ·) ?_
  unfold pnd
  rw [fl_t0 (a' := fun j => (xa σ (28 + 2 * j), .inr (8, [.int (xp (wp σ (2 * i) 0 v) (2 * j) 0), .int (xp (wp σ (2 * i) 0 v) (2 * j) 1), .ref (xa σ (29 + 2 * j))]))) h]
  · refine fl_c (fun j hj => ⟨rfl, ?_⟩)
    show _ = (xa σ (29 + 2 * j), Sum.inl (G.2 0, 61, Sum.inl (if 2 * j + 1 = 2 * i then _ else xp σ (2 * j + 1))))
    rw [if_neg (by omega)]
  · show (_, Sum.inr (8, [Value.int ((if 2 * i = 2 * i then upd (xp σ (2 * i)) 0 v else _) 0), Value.int ((if 2 * i = 2 * i then upd (xp σ (2 * i)) 0 v else _) 1), _])) = _
    rw [if_pos rfl, upd_at, upd_ne _ _ (by decide)]; rfl
  · intro j hj
    show (_, Sum.inr (8, [Value.int ((if 2 * j = 2 * i then _ else xp σ (2 * j)) 0), Value.int ((if 2 * j = 2 * i then _ else xp σ (2 * j)) 1), _])) = _
    rw [if_neg (by omega)]
theorem ps_1 (G : GG) (σ : St) {i : Nat} (h : i < xn σ) (v : Int32) : (WC G σ).set (28 + 2 * i) (xa σ (28 + 2 * i), .inr (8, ([.int (xp σ (2 * i) 0), .int (xp σ (2 * i) 1), .ref (xa σ (29 + 2 * i))] : List Value).set 1 (.int v))) = WC G (wp σ (2 * i) 1 v) := by
  rw [WC_app, WC_app, List.set_append_right _ _ (by rw [WC0_len]; omega), WC0_len, show 28 + 2 * i - 28 = 2 * i from by omega]
  refine congrArg (WC0 G σ ++ ·) ?_
  unfold pnd
  rw [fl_t0 (a' := fun j => (xa σ (28 + 2 * j), .inr (8, [.int (xp (wp σ (2 * i) 1 v) (2 * j) 0), .int (xp (wp σ (2 * i) 1 v) (2 * j) 1), .ref (xa σ (29 + 2 * j))]))) h]
  · refine fl_c (fun j hj => ⟨rfl, ?_⟩)
    show _ = (xa σ (29 + 2 * j), Sum.inl (G.2 0, 61, Sum.inl (if 2 * j + 1 = 2 * i then _ else xp σ (2 * j + 1))))
    rw [if_neg (by omega)]
  · show (_, Sum.inr (8, [Value.int ((if 2 * i = 2 * i then upd (xp σ (2 * i)) 1 v else _) 0), Value.int ((if 2 * i = 2 * i then upd (xp σ (2 * i)) 1 v else _) 1), _])) = _
    rw [if_pos rfl, upd_at, upd_ne _ _ (by decide)]; rfl
  · intro j hj
    show (_, Sum.inr (8, [Value.int ((if 2 * j = 2 * i then _ else xp σ (2 * j)) 0), Value.int ((if 2 * j = 2 * i then _ else xp σ (2 * j)) 1), _])) = _
    rw [if_neg (by omega)]
theorem ps_a (G : GG) (σ : St) {i : Nat} (h : i < xn σ) (k : Nat) (v : Int32) : (WC G σ).set (29 + 2 * i) (xa σ (29 + 2 * i), .inl (G.2 0, 61, .inl (upd (xp σ (2 * i + 1)) k v))) = WC G (wp σ (2 * i + 1) k v) := by
  rw [WC_app, WC_app, List.set_append_right _ _ (by rw [WC0_len]; omega), WC0_len, show 29 + 2 * i - 28 = 2 * i + 1 from by omega]
  refine congrArg (WC0 G σ ++ ·) ?_
  unfold pnd
  rw [fl_t1 (b' := fun j => (xa σ (29 + 2 * j), .inl (G.2 0, 61, .inl (xp (wp σ (2 * i + 1) k v) (2 * j + 1))))) h]
  · refine fl_c (fun j hj => ⟨?_, rfl⟩)
    show _ = (xa σ (28 + 2 * j), Sum.inr (8, [Value.int ((if 2 * j = 2 * i + 1 then _ else xp σ (2 * j)) 0), Value.int ((if 2 * j = 2 * i + 1 then _ else xp σ (2 * j)) 1), _]))
    rw [if_neg (by omega)]; rfl
  · show (_, Sum.inl (G.2 0, 61, Sum.inl (if 2 * i + 1 = 2 * i + 1 then _ else _))) = _
    rw [if_pos rfl]
  · intro j hj
    show (_, Sum.inl (G.2 0, 61, Sum.inl (if 2 * j + 1 = 2 * i + 1 then _ else xp σ (2 * j + 1)))) = _
    rw [if_neg (by omega)]
/-- one more pending symbol, at the addresses q and q' -/
def adF (f : Nat → Nat) (n q q' : Nat) : Nat → Nat := fun k => if k = 28 + 2 * n then q else if k = 29 + 2 * n then q' else f k
def adS (s : Sq) : Sq := (s.1, s.2.1, (fun j => if j = 2 * s.2.2.2 ∨ j = 2 * s.2.2.2 + 1 then fun _ => 0 else s.2.2.1 j), s.2.2.2 + 1)
theorem adF_lo {f : Nat → Nat} {n q q' k : Nat} (h : k < 28 + 2 * n) : adF f n q q' k = f k := by
  unfold adF; rw [if_neg (by omega), if_neg (by omega)]
theorem WC0_ad (G : GG) (f : Nat → Nat) (s : Sq) (q q' : Nat) : WC0 G (adF f s.2.2.2 q q', adS s) = (WC0 G (f, s)).set 23 (f 23, .inl (G.2 3, 2061, .inr (.inr (.inr (.inr (va_up (xst (f, s)) s.2.2.2 (some q))))))) := by
  have e : ∀ k, k < 28 → adF f s.2.2.2 q q' k = f k := fun k hk => adF_lo (by omega)
  have ex : xst (adF f s.2.2.2 q q', adS s) = va_up (xst (f, s)) s.2.2.2 (some q) := by
    funext i
    show (if i < s.2.2.2 + 1 then some (adF f s.2.2.2 q q' (28 + 2 * i)) else none) = if i = s.2.2.2 then some q else (if i < s.2.2.2 then some (f (28 + 2 * i)) else none)
    by_cases c : i = s.2.2.2
    · subst c; rw [if_pos (by omega), if_pos rfl]; unfold adF; rw [if_pos rfl]
    · rw [if_neg c]
      by_cases d : i < s.2.2.2
      · rw [if_pos d, if_pos (by omega), adF_lo (by omega)]
      · rw [if_neg d, if_neg (by omega)]
  unfold WC0 WC
  simp only [List.take_append, xa, ex]
  simp only [e 0 (by omega), e 1 (by omega), e 2 (by omega), e 3 (by omega), e 4 (by omega), e 5 (by omega), e 6 (by omega), e 7 (by omega), e 8 (by omega), e 9 (by omega), e 10 (by omega), e 11 (by omega), e 12 (by omega), e 13 (by omega), e 14 (by omega), e 15 (by omega), e 16 (by omega), e 17 (by omega), e 18 (by omega), e 19 (by omega), e 20 (by omega), e 21 (by omega), e 22 (by omega), e 23 (by omega), e 24 (by omega), e 25 (by omega), e 26 (by omega), e 27 (by omega)]
  rfl
theorem pnd_ad (G : GG) (f : Nat → Nat) (s : Sq) (q q' : Nat) : pnd G (adF f s.2.2.2 q q', adS s) = pnd G (f, s) ++ [(q, .inr (8, [.int 0, .int 0, .ref q'])), (q', .inl (G.2 0, 61, .inl (fun _ => 0)))] := by
  unfold pnd
  show (List.range (s.2.2.2 + 1)).flatMap _ = _
  rw [fl_s]
  congr 1
  · refine fl_c (fun i hi => ⟨?_, ?_⟩)
    · have hi : i < s.2.2.2 := hi
      show (adF f s.2.2.2 q q' (28 + 2 * i), Sum.inr (8, [Value.int ((if 2 * i = 2 * s.2.2.2 ∨ 2 * i = 2 * s.2.2.2 + 1 then fun _ => 0 else s.2.2.1 (2 * i)) 0), Value.int ((if 2 * i = 2 * s.2.2.2 ∨ 2 * i = 2 * s.2.2.2 + 1 then fun _ => 0 else s.2.2.1 (2 * i)) 1), Value.ref (adF f s.2.2.2 q q' (29 + 2 * i))])) = _
      rw [adF_lo (by omega), adF_lo (by omega), if_neg (by omega)]
    · have hi : i < s.2.2.2 := hi
      show (adF f s.2.2.2 q q' (29 + 2 * i), Sum.inl (G.2 0, 61, Sum.inl (if 2 * i + 1 = 2 * s.2.2.2 ∨ 2 * i + 1 = 2 * s.2.2.2 + 1 then fun _ => 0 else s.2.2.1 (2 * i + 1)))) = _
      rw [adF_lo (by omega), if_neg (by omega)]
  · show [(adF f s.2.2.2 q q' (28 + 2 * s.2.2.2), Sum.inr (8, [Value.int ((if 2 * s.2.2.2 = 2 * s.2.2.2 ∨ 2 * s.2.2.2 = 2 * s.2.2.2 + 1 then fun _ => 0 else s.2.2.1 (2 * s.2.2.2)) 0), Value.int ((if 2 * s.2.2.2 = 2 * s.2.2.2 ∨ 2 * s.2.2.2 = 2 * s.2.2.2 + 1 then fun _ => 0 else s.2.2.1 (2 * s.2.2.2)) 1), Value.ref (adF f s.2.2.2 q q' (29 + 2 * s.2.2.2))])),
      (adF f s.2.2.2 q q' (29 + 2 * s.2.2.2), Sum.inl (G.2 0, 61, Sum.inl (if 2 * s.2.2.2 + 1 = 2 * s.2.2.2 ∨ 2 * s.2.2.2 + 1 = 2 * s.2.2.2 + 1 then fun _ => 0 else s.2.2.1 (2 * s.2.2.2 + 1))))] = _
    have e1 : adF f s.2.2.2 q q' (28 + 2 * s.2.2.2) = q := by unfold adF; rw [if_pos rfl]
    have e2 : adF f s.2.2.2 q q' (29 + 2 * s.2.2.2) = q' := by unfold adF; rw [if_neg (by omega), if_pos rfl]
    rw [e1, e2, if_pos (.inl rfl), if_pos (.inr rfl)]
abbrev rmk (rm : Room) (δ : Nat) : Room := { frames := rm.frames, cells := 2 * δ, slots := 64 * δ, locals := rm.locals }
/-- the answer v; the state s, at new addresses but for the first 28 -/
def PA (G : GG) (f : Nat → Nat) (v : Option Value) (s : Sq) : PostT := fun v' w' => v' = v ∧ ∃ f' : Nat → Nat, (∀ k, k < 28 → f' k = f k) ∧ w' = WC G (f', s)
