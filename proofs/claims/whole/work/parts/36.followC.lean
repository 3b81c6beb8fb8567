/-! the component's followings -/
abbrev bW (g : Gr) (f : Nat → Int64) : Nat → Nat → Bool := fun y t => decide (y < gR g) && tb (f y) t
theorem bW_iff (g : Gr) (f : Nat → Int64) (y t : Nat) : bW g f y t = true ↔ y < gR g ∧ tb (f y) t = true := by simp only [bW, Bool.and_eq_true, decide_eq_true_eq]
theorem tb_m1 : ∀ i : Fin 64, tb (-1) i.val = true := by decide +kernel
theorem sub0 {x y : Int64} : x &&& (y ^^^ (-1)) = 0 ↔ ∀ t, tb x t = true → tb y t = true := by
  rw [tb_z]
  constructor
  · intro h t ht
    have h1 := h t
    by_cases q : t < 64
    · rw [tb_and, tb_xor, tb_m1 ⟨t, q⟩, ht] at h1
      simpa using h1
    · rw [tb_hi (by omega)] at ht; cases ht
  · intro h t
    by_cases q : t < 64
    · rw [tb_and, tb_xor, tb_m1 ⟨t, q⟩]
      cases q1 : tb x t
      · rfl
      · rw [h t q1]; rfl
    · exact tb_hi (by omega)
theorem tb_32 : ∀ i : Fin 64, tb 4294967296 i.val = decide (i.val = 32) := by decide +kernel
theorem tb_32' (t : Nat) : tb 4294967296 t = true ↔ t = 32 := by
  by_cases q : t < 64
  · rw [tb_32 ⟨t, q⟩, decide_eq_true_eq]
  · rw [tb_hi (by omega)]; constructor
    · intro h; cases h
    · intro h; omega
/-- what may come behind the first symbols, i of them, of a row, with c behind the row -/
def bh (g : Gr) (c : Int64) (row i t : Nat) : Prop := rowFst g (Fst g) row i t ∨ (rowN g (Nul g) row i ∧ tb c t = true)
theorem bh_step {g : Gr} {c : Int64} {row i t : Nat} (hi : i < gL g row) : bh g c row i t ↔ (symFst (Fst g) (gY g row i) t ∨ (nulS g (gY g row i) ∧ bh g c row (i + 1) t)) := by
  unfold bh
  rw [rowFst_step hi, rowN_step hi]
  constructor
  · rintro ((h | h) | h)
    · exact .inl h
    · exact .inr ⟨h.1, .inl h.2⟩
    · exact .inr ⟨h.1.1, .inr ⟨h.1.2, h.2⟩⟩
  · rintro (h | ⟨h1, h | h⟩)
    · exact .inl (.inl h)
    · exact .inl (.inr ⟨h1, h⟩)
    · exact .inr ⟨⟨h1, h.1⟩, h.2⟩
theorem k_widen (G : GG) {g : Gr} {σ : St} (hw : WF g) (hg : GC g σ) (hn : NoF (F2 g) (gR g)) (hN : ∀ i, tc (xi σ 5 3) i = true ↔ Nul g i) (hF : ∀ x, x < gR g → ∀ t, tb (xl σ 8 x) t = true ↔ Fst g x t)
    {x a : Nat} (hx : x < gR g) (ha : a < gA g x) (B0 : Nat → Nat → Prop) (D : Nat → Nat → Nat → Prop) (f : Nat → Int64) (hP : PassW g B0 (fun y t => bW g f y t = true) D) :
    ∃ f' ch, PassW g B0 (fun y t => bW g f' y t = true) (fun y b j => D y b j ∨ (y = x ∧ b = a ∧ j < gL g (8 * x + a) ∧ gY g (8 * x + a) j < 0)) ∧ (ch = 0 ∧ (∀ y t, bW g f' y t = true → bW g f y t = true) ∨ ch = 1) ∧
      Ct y_S_widenFollowings c_S_widenFollowings 10 (some .boolean) rm_S_widenFollowings G [.ref (xa σ 5), .int (nI (8 * x + a)), .long (f x)] (WC G (sl σ 9 f)) (eqp (some (.int ch)) (WC G (sl σ 9 f'))) := by
  have h16 := hw.r
  have h8 := hw.a x
  have hl := hw.l (8 * x + a)
  have hr : 8 * x + a < 128 := by omega
  have hP0 := hP.1
  obtain ⟨⟨f', ch, w⟩, ⟨h1, h2, h3, h4⟩, k1⟩ := iterD (C := fun q : KP => Bd q.1 G q.2.1 "FirstTrees$Study" c_S_widenFollowings 10 (some .boolean) rm_S_widenFollowings) (fun i (s : (Nat → Int64) × Int32 × Int64) =>
      PassW g B0 (fun y t => bW g s.1 y t = true) (fun y b j => D y b j ∨ (y = x ∧ b = a ∧ i ≤ j ∧ j < gL g (8 * x + a) ∧ gY g (8 * x + a) j < 0)) ∧ (s.2.1 = 0 ∧ (∀ y t, bW g s.1 y t = true → bW g f y t = true) ∨ s.2.1 = 1) ∧
      (∀ t, tb s.2.2 t = true ↔ bh g (f x) (8 * x + a) i t) ∧ (∀ t, tb (f x) t = true → tb (s.1 x) t = true))
    (fun q i s => Lb q.1 G q.2.1 (Qe q.1 G q.2.1 q.2.2 rm_S_widenFollowings) 10 18 [(0, .ref (xa σ 5)), (1, .int (nI (8 * x + a))), (2, .long (f x)), (4, .int s.2.1), (5, .long s.2.2), (7, .int (dI i))] [] (WC G (sl σ 9 s.1)) 0 0) (gL g (8 * x + a)) (by
    intro i ⟨f1, ch, w⟩ hi ⟨hP, hch, hw1, hC⟩
    have hP : PassW g B0 (fun y t => bW g f1 y t = true) (fun y b j => D y b j ∨ (y = x ∧ b = a ∧ i + 1 ≤ j ∧ j < gL g (8 * x + a) ∧ gY g (8 * x + a) j < 0)) := hP
    have hch : ch = 0 ∧ (∀ y t, bW g f1 y t = true → bW g f y t = true) ∨ ch = 1 := hch
    have hw1 : ∀ t, tb w t = true ↔ bh g (f x) (8 * x + a) (i + 1) t := hw1
    have hC : ∀ t, tb (f x) t = true → tb (f1 x) t = true := hC
    have hy := hw.y (8 * x + a) i
    have hrl := hw.rl (8 * x + a) i
    have ek : xi (sl σ 9 f1) 4 (8 * (8 * x + a) + i) = sI (gY g (8 * x + a) i) := hg.2.2.2 _ (by omega)
    have wn : ∀ r94 : Int64, (∀ t, tb r94 t = true ↔ symFst (Fst g) (gY g (8 * x + a) i) t) → (nulS g (gY g (8 * x + a) i) → ∀ t, tb (r94 ||| w) t = true ↔ bh g (f x) (8 * x + a) i t) ∧ (¬ nulS g (gY g (8 * x + a) i) → ∀ t, tb (r94 ||| 0) t = true ↔ bh g (f x) (8 * x + a) i t) := by
      intro r hr
      constructor
      · intro hs t
        rw [tb_or, Bool.or_eq_true, hr, hw1, bh_step hi]
        exact ⟨fun q => q.elim .inl (fun q => .inr ⟨hs, q⟩), fun q => q.elim .inl (fun q => .inr q.2)⟩
      · intro hs t
        rw [tb_or, Bool.or_eq_true, hr, tb_0, bh_step hi]
        exact ⟨fun q => q.elim .inl (fun q => by cases q), fun q => q.elim .inl (fun q => absurd q.1 hs)⟩
    by_cases c : gY g (8 * x + a) i < 0
    · have hy' := rl_lt hn hx ha hi c
      have c40 : b2i (decide (0 ≤ xi (sl σ 9 f1) 4 (8 * (8 * x + a) + i))) = 0 := by rw [ek]; exact tok_0 hy.1 hy.2 c
      have e60 : (-1 : Int32) - xi (sl σ 9 f1) 4 (8 * (8 * x + a) + i) = nI (rl (gY g (8 * x + a) i)) := by rw [ek, rl_sI c]
      have ew : wl (sl σ 9 f1) 9 (rl (gY g (8 * x + a) i)) (xl (sl σ 9 f1) 9 (rl (gY g (8 * x + a) i)) ||| w) = sl σ 9 (vp_updL f1 (rl (gY g (8 * x + a) i)) (f1 (rl (gY g (8 * x + a) i)) ||| w)) := by rw [wl_sl, xl_sl]
      have tN := k_symN G (g := g) (σ := sl σ 9 (vp_updL f1 (rl (gY g (8 * x + a) i)) (f1 (rl (gY g (8 * x + a) i)) ||| w))) hy.1 hy.2
      obtain ⟨u, hu, tu⟩ := k_symFst G (σ := sl σ 9 (vp_updL f1 (rl (gY g (8 * x + a) i)) (f1 (rl (gY g (8 * x + a) i)) ||| w))) hy.1 hy.2
      have hu' : ∀ t, tb u t = true ↔ symFst (Fst g) (gY g (8 * x + a) i) t := by
        intro t
        rw [hu]
        exact ⟨fun q => q.elim .inl (fun q => .inr ⟨q.1, (hF _ hy' t).mp q.2⟩), fun q => q.elim .inl (fun q => .inr ⟨q.1, (hF _ hy' t).mpr q.2⟩)⟩
      have hs : (gY g (8 * x + a) i < 0 ∧ bN (sl σ 9 (vp_updL f1 (rl (gY g (8 * x + a) i)) (f1 (rl (gY g (8 * x + a) i)) ||| w))) (rl (gY g (8 * x + a) i)) = true) ↔ nulS g (gY g (8 * x + a) i) := by
        unfold nulS; exact and_congr Iff.rfl (hN _)
      rw [← ek, ← ew] at tu tN
      have bits : ∀ z t, bW g (vp_updL f1 (rl (gY g (8 * x + a) i)) (f1 (rl (gY g (8 * x + a) i)) ||| w)) z t = true ↔ (bW g f1 z t = true ∨ (z = rl (gY g (8 * x + a) i) ∧ behind g (fun t => tb (f x) t = true) (8 * x + a) i t)) := by
        intro z t
        rw [bW_iff, bW_iff]
        by_cases e : z = rl (gY g (8 * x + a) i)
        · rw [e, updL_at, tb_or, Bool.or_eq_true, hw1]
          exact ⟨fun q => q.2.elim (fun h => .inl ⟨q.1, h⟩) (fun h => .inr ⟨rfl, h⟩), fun q => q.elim (fun h => ⟨h.1, .inl h.2⟩) (fun h => ⟨hy', .inr h.2⟩)⟩
        · rw [updL_ne _ _ e]
          exact ⟨fun q => .inl q, fun q => q.elim id (fun h => absurd h.1 e)⟩
      have hP' := (hP.step hx ha hi c (B' := fun y t => bW g (vp_updL f1 (rl (gY g (8 * x + a) i)) (f1 (rl (gY g (8 * x + a) i)) ||| w)) y t = true) (fun t => tb (f x) t = true) (fun t q => ((bW_iff g f x t).mp (hP0 x t q)).2) (fun t q => (bW_iff g f1 x t).mpr ⟨hx, hC t q⟩) bits).mono (D' := fun y b j => D y b j ∨ (y = x ∧ b = a ∧ i ≤ j ∧ j < gL g (8 * x + a) ∧ gY g (8 * x + a) j < 0)) (fun y b j q => by
          rcases q with q | ⟨q1, q2, q3, q4, q5⟩
          · exact .inl (.inl q)
          · by_cases e : j = i
            · exact .inr ⟨q1, q2, e⟩
            · exact .inl (.inr ⟨q1, q2, by omega, q4, q5⟩))
      have hC' : ∀ t, tb (f x) t = true → tb (vp_updL f1 (rl (gY g (8 * x + a) i)) (f1 (rl (gY g (8 * x + a) i)) ||| w) x) t = true := by
        intro t ht
        by_cases e : x = rl (gY g (8 * x + a) i)
        · rw [← e, updL_at, tb_or, hC t ht]; rfl
        · rw [updL_ne _ _ e]; exact hC t ht
      have ch1 : ch ||| 1 = 1 := by rcases hch with ⟨e, _⟩ | e <;> rw [e] <;> rfl
      have ch0 : ch ||| 0 = ch := by rcases hch with ⟨e, _⟩ | e <;> rw [e] <;> rfl
      by_cases c67 : ∀ t, tb w t = true → tb (f1 (rl (gY g (8 * x + a) i))) t = true
      · have hch' : ch = 0 ∧ (∀ y t, bW g (vp_updL f1 (rl (gY g (8 * x + a) i)) (f1 (rl (gY g (8 * x + a) i)) ||| w)) y t = true → bW g f y t = true) ∨ ch = 1 := by
          rcases hch with ⟨e, h⟩ | e
          · refine .inl ⟨e, fun y t q => h y t ?_⟩
            rcases (bits y t).mp q with q | ⟨q1, q2⟩
            · exact q
            · rw [q1, bW_iff]; exact ⟨hy', c67 t ((hw1 t).mpr q2)⟩
          · exact .inr e
        by_cases d : nulS g (gY g (8 * x + a) i)
        · refine ⟨(_, ch, u ||| w), ⟨hP', hch', (wn u hu').1 d, hC'⟩, fun q X kk => ?_⟩
          show Lb _ _ _ _ _ _ [(0, .ref (xa σ 5)), (1, .int (nI (8 * x + a))), (2, .long (f x)), (4, .int ch), (5, .long w), (7, .int (dI (i + 1)))] _ _ _ _
          rw [dI_s]
          refine sg_S_widenFollowings_18_fftf18 X (sl σ 9 f1) _ _ _ _ _ _ _ _ _ (dI_nn (by omega)) (n8 _ i) (by omega) c40 e60 hrl (sub0.mpr c67) tu tN (by rw [pI_n0]; exact hs.mpr d) ?_
          rw [dI_m, ch0, ew]; exact kk
        · refine ⟨(_, ch, u ||| 0), ⟨hP', hch', (wn u hu').2 d, hC'⟩, fun q X kk => ?_⟩
          show Lb _ _ _ _ _ _ [(0, .ref (xa σ 5)), (1, .int (nI (8 * x + a))), (2, .long (f x)), (4, .int ch), (5, .long w), (7, .int (dI (i + 1)))] _ _ _ _
          rw [dI_s]
          refine sg_S_widenFollowings_18_fftt18 X (sl σ 9 f1) _ _ _ _ _ _ _ _ _ (dI_nn (by omega)) (n8 _ i) (by omega) c40 e60 hrl (sub0.mpr c67) tu tN (by rw [pI_0]; exact fun q => d (hs.mp q)) ?_
          rw [dI_m, ch0, ew]; exact kk
      · by_cases d : nulS g (gY g (8 * x + a) i)
        · refine ⟨(_, 1, u ||| w), ⟨hP', .inr rfl, (wn u hu').1 d, hC'⟩, fun q X kk => ?_⟩
          show Lb _ _ _ _ _ _ [(0, .ref (xa σ 5)), (1, .int (nI (8 * x + a))), (2, .long (f x)), (4, .int ch), (5, .long w), (7, .int (dI (i + 1)))] _ _ _ _
          rw [dI_s]
          refine sg_S_widenFollowings_18_ffff18 X (sl σ 9 f1) _ _ _ _ _ _ _ _ _ (dI_nn (by omega)) (n8 _ i) (by omega) c40 e60 hrl (fun q => c67 (sub0.mp q)) tu tN (by rw [pI_n0]; exact hs.mpr d) ?_
          rw [dI_m, ch1, ew]; exact kk
        · refine ⟨(_, 1, u ||| 0), ⟨hP', .inr rfl, (wn u hu').2 d, hC'⟩, fun q X kk => ?_⟩
          show Lb _ _ _ _ _ _ [(0, .ref (xa σ 5)), (1, .int (nI (8 * x + a))), (2, .long (f x)), (4, .int ch), (5, .long w), (7, .int (dI (i + 1)))] _ _ _ _
          rw [dI_s]
          refine sg_S_widenFollowings_18_ffft18 X (sl σ 9 f1) _ _ _ _ _ _ _ _ _ (dI_nn (by omega)) (n8 _ i) (by omega) c40 e60 hrl (fun q => c67 (sub0.mp q)) tu tN (by rw [pI_0]; exact fun q => d (hs.mp q)) ?_
          rw [dI_m, ch1, ew]; exact kk
    · have c40 : ¬ b2i (decide (0 ≤ xi (sl σ 9 f1) 4 (8 * (8 * x + a) + i))) = 0 := by rw [ek, tok_1 hy.1 hy.2 c]; decide
      have tN := k_symN G (g := g) (σ := sl σ 9 f1) hy.1 hy.2
      obtain ⟨u, hu, tu⟩ := k_symFst G (σ := sl σ 9 f1) hy.1 hy.2
      have hu' : ∀ t, tb u t = true ↔ symFst (Fst g) (gY g (8 * x + a) i) t := by
        intro t
        rw [hu]
        exact ⟨fun q => q.elim .inl (fun q => absurd q.1 c), fun q => q.elim .inl (fun q => absurd q.1 c)⟩
      have d : ¬ nulS g (gY g (8 * x + a) i) := fun q => c q.1
      rw [← ek] at tu tN
      refine ⟨(f1, ch, u ||| 0), ⟨hP.mono (fun y b j q => ?_), hch, (wn u hu').2 d, hC⟩, fun q X kk => ?_⟩
      · rcases q with q | ⟨q1, q2, q3, q4, q5⟩
        · exact .inl q
        · by_cases e : j = i
          · rw [e] at q5; exact absurd q5 c
          · exact .inr ⟨q1, q2, by omega, q4, q5⟩
      · show Lb _ _ _ _ _ _ [(0, .ref (xa σ 5)), (1, .int (nI (8 * x + a))), (2, .long (f x)), (4, .int ch), (5, .long w), (7, .int (dI (i + 1)))] _ _ _ _
        rw [dI_s]
        refine sg_S_widenFollowings_18_ftt18 X (sl σ 9 f1) _ _ _ _ _ _ _ _ (dI_nn (by omega)) (n8 _ i) (by omega) c40 tu tN (by rw [pI_0]; exact fun q => c q.1) ?_
        rw [dI_m]; exact kk) (gL g (8 * x + a)) (f, 0, f x) (Nat.le_refl _) ⟨hP.mono (fun y b j q => by
          rcases q with q | q
          · exact q
          · omega), .inl ⟨rfl, fun _ _ q => q⟩, fun t => ⟨fun q => .inr ⟨rowN_end (Nat.le_refl _), q⟩, fun q => q.elim (fun q => absurd q (rowFst_end (Nat.le_refl _))) (fun q => q.2)⟩, fun _ q => q⟩
  refine ⟨f', ch, h1.mono (fun y b j q => ?_), h2, ?_⟩
  · rcases q with q | q
    · exact .inl q
    · exact .inr ⟨q.1, q.2.1, Nat.zero_le _, q.2.2⟩
  · refine Ct.of (by decide +kernel) (Nat.le_of_ble_eq_true rfl) (fun K X => ?_)
    have hg' : GC g (sl σ 9 f) := hg.of rfl rfl rfl rfl
    refine sg_S_widenFollowings_0_18 X (sl σ 9 f) _ _ (8 * x + a) rfl hr ?_
    rw [hg'.2.2.1 _ hr, dI_n]
    refine k1 (K, _, _) X ?_
    refine sg_S_widenFollowings_18_tr X (sl σ 9 f') _ _ _ _ _ dI_0 ?_ ⟨rfl, rfl⟩
    rcases h2 with ⟨e, _⟩ | e
    · have e : ch = 0 := e
      rw [e]; show narrow .boolean (.int 0) = .int 0; rfl
    · have e : ch = 1 := e
      rw [e]; show narrow .boolean (.int 1) = .int 1; rfl

theorem k_fW_alt (G : GG) {g : Gr} {σ : St} (hw : WF g) (hg : GC g σ) (hn : NoF (F2 g) (gR g)) (hN : ∀ i, tc (xi σ 5 3) i = true ↔ Nul g i) (hF : ∀ x, x < gR g → ∀ t, tb (xl σ 8 x) t = true ↔ Fst g x t)
    (x2 : Int32) {x : Nat} (hx : x < gR g) (B0 : Nat → Nat → Prop) (f : Nat → Int64) (c : Int32)
    (h : PassW g B0 (fun y t => bW g f y t = true) (fun y b j => y < x ∧ b < gA g y ∧ j < gL g (8 * y + b) ∧ gY g (8 * y + b) j < 0) ∧ (c = 0 ∧ (∀ y t, bW g f y t = true → B0 y t) ∨ c = 1)) :
    ∃ f' c', (PassW g B0 (fun y t => bW g f' y t = true) (fun y b j => y < x + 1 ∧ b < gA g y ∧ j < gL g (8 * y + b) ∧ gY g (8 * y + b) j < 0) ∧ (c' = 0 ∧ (∀ y t, bW g f' y t = true → B0 y t) ∨ c' = 1)) ∧ ∀ q, (fun q : KQ => Bd q.1 G q.2.1 "FirstTrees$Study" c_S_findFollowings 5 none rm_S_findFollowings) q →
      Lb q.1 G q.2.1 q.2.2 5 53 [(0, .ref (xa σ 5)), (1, .int c'), (2, .int x2), (3, .int (nI (x + 1)))] [] (WC G (sl σ 9 f')) 0 0 →
      Lb q.1 G q.2.1 q.2.2 5 67 [(0, .ref (xa σ 5)), (1, .int c), (2, .int x2), (3, .int (nI x)), (4, .int (nI 0))] [] (WC G (sl σ 9 f)) 0 0 := by
  have h16 := hw.r
  have h8 := hw.a x
  obtain ⟨⟨f', c'⟩, ⟨h1, h2⟩, k1⟩ := iterL (C := fun q : KQ => Bd q.1 G q.2.1 "FirstTrees$Study" c_S_findFollowings 5 none rm_S_findFollowings) (gA g x) (fun a (s : (Nat → Int64) × Int32) => PassW g B0 (fun y t => bW g s.1 y t = true) (fun y b j => (y < x ∨ (y = x ∧ b < a)) ∧ b < gA g y ∧ j < gL g (8 * y + b) ∧ gY g (8 * y + b) j < 0) ∧ (s.2 = 0 ∧ (∀ y t, bW g s.1 y t = true → B0 y t) ∨ s.2 = 1))
    (fun q a s => Lb q.1 G q.2.1 q.2.2 5 67 [(0, .ref (xa σ 5)), (1, .int s.2), (2, .int x2), (3, .int (nI x)), (4, .int (nI a))] [] (WC G (sl σ 9 s.1)) 0 0) (by
    intro a ⟨f, c⟩ ha ⟨hP, hc⟩
    have hc : c = 0 ∧ (∀ y t, bW g f y t = true → B0 y t) ∨ c = 1 := hc
    obtain ⟨f', ch, h3, h4, t⟩ := k_widen G hw hg hn hN hF hx ha B0 _ f hP
    have hg' : GC g (sl σ 9 f) := hg.of rfl rfl rfl rfl
    have c77 : ¬ altC (sl σ 9 f) x ≤ nI a := by rw [altC_eq hw hg' hx, n_le (by omega) (by omega)]; omega
    refine ⟨(f', c ||| ch), ⟨h3.mono (fun y b j q => ?_), ?_⟩, fun q X kk => ?_⟩
    · by_cases e : y = x ∧ b = a
      · obtain ⟨e1, e2⟩ := e
        subst e1; subst e2; exact .inr ⟨rfl, rfl, q.2.2.1, q.2.2.2⟩
      · exact .inl ⟨by omega, q.2⟩
    · rcases hc with ⟨e, h⟩ | e
      · rcases h4 with ⟨e', h'⟩ | e'
        · exact .inl ⟨by show c ||| ch = 0; rw [e, e']; rfl, fun y t q => h y t (h' y t q)⟩
        · exact .inr (by show c ||| ch = 1; rw [e, e']; rfl)
      · rcases h4 with ⟨e', h'⟩ | e'
        · exact .inr (by show c ||| ch = 1; rw [e, e']; rfl)
        · exact .inr (by show c ||| ch = 1; rw [e, e']; rfl)
    · rw [← n8] at t
      refine sg_S_findFollowings_67_f67 X (sl σ 9 f) _ _ _ _ x ch (sl σ 9 f').2 rfl (by omega) c77 (by rw [xl_sl]; exact t) ?_
      rw [n_s]; exact kk) 0 (f, c) (Nat.zero_le _) ⟨h.1.mono (fun y b j q => ⟨by omega, q.2⟩), h.2⟩
  refine ⟨f', c', ⟨h1.mono (fun y b j q => ⟨?_, q.2⟩), h2⟩, fun q X kk => k1 q X ?_⟩
  · by_cases e : y = x
    · subst e; exact .inr ⟨rfl, q.2.1⟩
    · exact .inl (by omega)
  · have hg' : GC g (sl σ 9 f') := hg.of rfl rfl rfl rfl
    refine sg_S_findFollowings_67_t53 X (sl σ 9 f') _ _ _ _ x rfl (by omega) (by rw [altC_eq hw hg' hx, n_le (by omega) (by omega)]; omega) ?_
    rw [n_s]; exact kk
theorem k_fW_pass (G : GG) {g : Gr} {σ : St} (hw : WF g) (hg : GC g σ) (hn : NoF (F2 g) (gR g)) (hN : ∀ i, tc (xi σ 5 3) i = true ↔ Nul g i) (hF : ∀ x, x < gR g → ∀ t, tb (xl σ 8 x) t = true ↔ Fst g x t)
    (x2 : Int32) (f : Nat → Int64) (hB : ∀ x t, bW g f x t = true → Fol g x t) :
    ∃ f' c', PassW g (fun y t => bW g f y t = true) (fun y t => bW g f' y t = true) (fun y b j => y < gR g ∧ b < gA g y ∧ j < gL g (8 * y + b) ∧ gY g (8 * y + b) j < 0) ∧ (c' = 0 ∧ (∀ y t, bW g f' y t = true → bW g f y t = true) ∨ c' = 1) ∧ ∀ q, (fun q : KQ => Bd q.1 G q.2.1 "FirstTrees$Study" c_S_findFollowings 5 none rm_S_findFollowings) q →
      Lb q.1 G q.2.1 q.2.2 5 53 [(0, .ref (xa σ 5)), (1, .int c'), (2, .int x2), (3, .int (nI (gR g)))] [] (WC G (sl σ 9 f')) 0 0 →
      Lb q.1 G q.2.1 q.2.2 5 53 [(0, .ref (xa σ 5)), (1, .int 0), (2, .int x2), (3, .int (nI 0))] [] (WC G (sl σ 9 f)) 0 0 := by
  have h16 := hw.r
  obtain ⟨⟨f', c'⟩, ⟨h1, h2⟩, k1⟩ := iterL (C := fun q : KQ => Bd q.1 G q.2.1 "FirstTrees$Study" c_S_findFollowings 5 none rm_S_findFollowings) (gR g) (fun x (s : (Nat → Int64) × Int32) => PassW g (fun y t => bW g f y t = true) (fun y t => bW g s.1 y t = true) (fun y b j => y < x ∧ b < gA g y ∧ j < gL g (8 * y + b) ∧ gY g (8 * y + b) j < 0) ∧ (s.2 = 0 ∧ (∀ y t, bW g s.1 y t = true → bW g f y t = true) ∨ s.2 = 1))
    (fun q x s => Lb q.1 G q.2.1 q.2.2 5 53 [(0, .ref (xa σ 5)), (1, .int s.2), (2, .int x2), (3, .int (nI x))] [] (WC G (sl σ 9 s.1)) 0 0) (by
    intro x ⟨f1, c⟩ hx h
    obtain ⟨f', c', h3, k3⟩ := k_fW_alt G hw hg hn hN hF x2 hx _ f1 c h
    refine ⟨(f', c'), h3, fun q X kk => ?_⟩
    have hg' : GC g (sl σ 9 f1) := hg.of rfl rfl rfl rfl
    exact sg_S_findFollowings_53_f67 X (sl σ 9 f1) _ _ _ (by rw [hg'.1, n_le (by omega) (by omega)]; omega) (k3 q X kk)) 0 (f, 0) (Nat.zero_le _) ⟨(PassW.start hB).mono (fun y b j q => by omega), .inl ⟨rfl, fun _ _ q => q⟩⟩
  exact ⟨f', c', h1, h2, k1⟩
theorem k_fW_loop (G : GG) {g : Gr} {σ : St} (hw : WF g) (hg : GC g σ) (hn : NoF (F2 g) (gR g)) (hN : ∀ i, tc (xi σ 5 3) i = true ↔ Nul g i) (hF : ∀ x, x < gR g → ∀ t, tb (xl σ 8 x) t = true ↔ Fst g x t)
    (f : Nat → Int64) (hA : AfterW g 0 (bW g f)) :
    ∃ f', (∀ x t, bW g f' x t = true ↔ Fol g x t) ∧ ∀ q, (fun q : KP => Bd q.1 G q.2.1 "FirstTrees$Study" c_S_findFollowings 5 none rm_S_findFollowings) q → q.2.2 none (WC G (sl σ 9 f')) →
      Lb q.1 G q.2.1 (Qe q.1 G q.2.1 q.2.2 rm_S_findFollowings) 5 39 [(0, .ref (xa σ 5)), (1, .int 1), (2, .int (nI 0))] [] (WC G (sl σ 9 f)) 0 0 := by
  have h16 := hw.r
  refine iterE (C := fun q : KP => Bd q.1 G q.2.1 "FirstTrees$Study" c_S_findFollowings 5 none rm_S_findFollowings) 17 (fun p (s : (Nat → Int64) × Int32) => AfterW g p (bW g s.1) ∧ (s.2 = 0 ∧ (∀ t, ClosedT g (fun x s' => bW g s.1 x s' = true) t) ∨ s.2 = 1))
    (fun q p s => Lb q.1 G q.2.1 (Qe q.1 G q.2.1 q.2.2 rm_S_findFollowings) 5 39 [(0, .ref (xa σ 5)), (1, .int s.2), (2, .int (nI p))] [] (WC G (sl σ 9 s.1)) 0 0)
    (fun f' => ∀ x t, bW g f' x t = true ↔ Fol g x t) (fun q f' => q.2.2 none (WC G (sl σ 9 f'))) ?_ ?_ 0 (f, 1) (Nat.zero_le _) ⟨hA, .inr rfl⟩
  · intro p ⟨f, c⟩ hp ⟨hA, hc⟩
    have hA : AfterW g p (bW g f) := hA
    have hc : c = 0 ∧ (∀ t, ClosedT g (fun x s' => bW g f x s' = true) t) ∨ c = 1 := hc
    have c42 : ¬ (16 : Int32) < nI p := by rw [show (16 : Int32) = nI 16 from rfl, n_lt (by omega) (by omega)]; omega
    rcases hc with ⟨e, hC⟩ | e
    · subst e
      exact .inl ⟨f, AfterW.same hA.1 hC, fun q X kk => sg_S_findFollowings_39_ftr X (sl σ 9 f) _ _ c42 rfl kk⟩
    · subst e
      obtain ⟨f', c', h1, h2, k1⟩ := k_fW_pass G hw hg hn hN hF (nI p) f hA.1
      have hA' := hA.next hn h1 (fun x a k h1 h2 h3 h4 => ⟨h1, h2, h3, h4⟩)
      have hg' : GC g (sl σ 9 f') := hg.of rfl rfl rfl rfl
      refine .inr ⟨(f', c'), ⟨hA', ?_⟩, fun q X kk => ?_⟩
      · rcases h2 with ⟨e, h⟩ | e
        · exact .inl ⟨e, fun t => h1.fin (fun x a k h1 h2 h3 h4 => ⟨h1, h2, h3, h4⟩) (fun x q => h x t q) (fun _ h0 => hA'.2.1 h0)⟩
        · exact .inr e
      · refine sg_S_findFollowings_39_ff53 X (sl σ 9 f) _ _ c42 i1n0 (k1 (q.1, q.2.1, _) X ?_)
        refine sg_S_findFollowings_53_t39 X (sl σ 9 f') _ _ _ (by rw [hg'.1, n_le (by omega) (by omega)]; omega) ?_
        rw [n_s]; exact kk
  · intro ⟨f, c⟩ ⟨hA, _⟩
    have hA : AfterW g 17 (bW g f) := hA
    refine ⟨f, AfterW.same hA.1 (hA.full hn (by omega)), fun q X kk => sg_S_findFollowings_39_tr X (sl σ 9 f) _ _ (by rw [show (16 : Int32) = nI 16 from rfl, n_lt (by omega) (by omega)]; omega) kk⟩
theorem k_findFollowings (G : GG) {g : Gr} {σ : St} (hw : WF g) (hg : GC g σ) (h0 : gR g ≠ 0) (hn : NoF (F2 g) (gR g)) (hN : ∀ i, tc (xi σ 5 3) i = true ↔ Nul g i) (hF : ∀ x, x < gR g → ∀ t, tb (xl σ 8 x) t = true ↔ Fst g x t) :
    ∃ f, (∀ x, x < gR g → ∀ t, tb (f x) t = true ↔ Fol g x t) ∧ Ct y_S_findFollowings c_S_findFollowings 5 none rm_S_findFollowings G [.ref (xa σ 5)] (WC G σ) (eqp none (WC G (sl σ 9 f))) := by
  have h16 := hw.r
  obtain ⟨f0, h1, k1⟩ := iterL (C := fun q : KQ => Bd q.1 G q.2.1 "FirstTrees$Study" c_S_findFollowings 5 none rm_S_findFollowings) (gR g) (fun k f => ∀ j, j < k → f j = 0)
    (fun q k f => Lb q.1 G q.2.1 q.2.2 5 2 [(0, .ref (xa σ 5)), (1, .int (nI k))] [] (WC G (sl σ 9 f)) 0 0) (by
    intro k f hk hf
    refine ⟨vp_updL f k 0, fun j hj => ?_, fun q X kk => ?_⟩
    · by_cases e : j = k
      · rw [e, updL_at]
      · rw [updL_ne _ _ e]; exact hf j (by omega)
    · refine sg_S_findFollowings_2_f2 X (sl σ 9 f) _ k (by rw [show xi (sl σ 9 f) 1 0 = xi σ 1 0 from rfl, hg.1, n_le (by omega) (by omega)]; omega) rfl (by omega) ?_
      rw [n_s, wl_sl]; exact kk) 0 (xl σ 9) (Nat.zero_le _) (fun j hj => by omega)
  simp only [sl_id] at k1
  have bits : ∀ x t, bW g (vp_updL f0 0 4294967296) x t = true ↔ x = 0 ∧ t = 32 := by
    intro x t
    rw [bW_iff]
    by_cases e : x = 0
    · rw [e, updL_at, tb_32']; exact ⟨fun q => ⟨rfl, q.2⟩, fun q => ⟨by omega, q.2⟩⟩
    · rw [updL_ne _ _ e]
      exact ⟨fun q => (by rw [h1 x q.1, tb_0] at q; exact absurd q.2 (by decide)), fun q => absurd q.1 e⟩
  obtain ⟨f, h2, k2⟩ := k_fW_loop G hw hg hn hN hF (vp_updL f0 0 4294967296) ⟨fun x t q => by
    obtain ⟨e1, e2⟩ := (bits x t).mp q
    rw [e1, e2]; exact (Fol_closed g).1 (by omega), fun _ => (bits 0 32).mpr ⟨rfl, rfl⟩, fun t => .inr (Nat.zero_le _)⟩
  refine ⟨f, fun x hx t => ?_, ?_⟩
  · rw [← h2 x t, bW_iff]; exact ⟨fun q => ⟨hx, q⟩, fun q => q.2⟩
  · refine Ct.of (by decide +kernel) (Nat.le_of_ble_eq_true rfl) (fun K X => ?_)
    refine sg_S_findFollowings_0_2 X σ (k1 (K, _, _) X ?_)
    refine sg_S_findFollowings_2_t39 X (sl σ 9 f0) _ (by rw [show xi (sl σ 9 f0) 1 0 = xi σ 1 0 from rfl, hg.1, n_le (by omega) (by omega)]; omega) ?_
    rw [wl_sl]
    exact k2 (K, _, _) X ⟨rfl, rfl⟩
