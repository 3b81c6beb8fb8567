/-! the component's findLeft -/
theorem k_rulesAtLeft (G : GG) {g : Gr} {σ : St} (hw : WF g) (hg : GC g σ) (hN : ∀ i, tc (xi σ 5 3) i = true ↔ Nul g i) {row : Nat} (hr : row < 128) :
    ∃ v, (∀ i, tc v i = true ↔ atL g row i) ∧ Ct y_S_rulesAtLeft c_S_rulesAtLeft 5 (some .int) rm_S_rulesAtLeft G [.ref (xa σ 5), .int (nI row)] (WC G σ) (eqp (some (.int v)) (WC G σ)) := by
  have hl := hw.l row
  obtain ⟨v, h1, h2⟩ := iterE (C := fun q : KP => Bd q.1 G q.2.1 "FirstTrees$Study" c_S_rulesAtLeft 5 (some .int) rm_S_rulesAtLeft) (gL g row) (fun k v => (∀ j, j < k → nulS g (gY g row j)) ∧ ∀ i, tc v i = true ↔ ∃ j, j < k ∧ gY g row j < 0 ∧ rl (gY g row j) = i)
    (fun q k v => Lb q.1 G q.2.1 (Qe q.1 G q.2.1 q.2.2 rm_S_rulesAtLeft) 5 4 [(0, .ref (xa σ 5)), (1, .int (nI row)), (2, .int v), (3, .int (nI k))] [] (WC G σ) 0 0)
    (fun v => ∀ i, tc v i = true ↔ atL g row i) (fun q v => q.2.2 (some (.int v)) (WC G σ)) (by
    intro k v hk ⟨hn, hv⟩
    have hy := hw.y row k
    have h16 := hw.rl row k
    have e22 := n8 row k
    have c13 : ¬ xi σ 3 row ≤ nI k := by rw [hg.2.2.1 row hr, n_le (by omega) (by omega)]; omega
    have ek : xi σ 4 (8 * row + k) = sI (gY g row k) := hg.2.2.2 _ (by omega)
    have t := k_symN G (g := g) (σ := σ) hy.1 hy.2
    rw [← ek] at t
    have hs : (gY g row k < 0 ∧ bN σ (rl (gY g row k)) = true) ↔ nulS g (gY g row k) := by unfold nulS; rw [hN]
    by_cases c : gY g row k < 0
    · have e32 : b2i (decide (0 ≤ xi σ 4 (8 * row + k))) = 0 := by rw [ek]; exact tok_0 hy.1 hy.2 c
      have ev : ∀ i, tc (v ||| (1 <<< (((-1) - (xi σ 4 (8 * row + k))) &&& 31))) i = true ↔ ∃ j, j < k + 1 ∧ gY g row j < 0 ∧ rl (gY g row j) = i := by
        intro i
        rw [ek, rl_sI c, tc_or, tc_sh1 (by omega), Bool.or_eq_true, hv, decide_eq_true_eq]
        constructor
        · rintro (⟨j, h1, h2⟩ | h)
          · exact ⟨j, by omega, h2⟩
          · exact ⟨k, by omega, c, h.symm⟩
        · rintro ⟨j, h1, h2, h3⟩
          by_cases e : j = k
          · subst e; exact .inr h3.symm
          · exact .inl ⟨j, by omega, h2, h3⟩
      by_cases d : nulS g (gY g row k)
      · refine .inr ⟨_, ⟨?_, ev⟩, fun q X kk => ?_⟩
        · intro j hj
          by_cases e : j = k
          · rw [e]; exact d
          · exact hn j (by omega)
        · refine sg_S_rulesAtLeft_4_fft4 X σ _ _ _ row (8 * row + k) _ rfl hr c13 e22 (by omega) e32 t (by rw [pI_n0]; exact hs.mpr d) ?_
          rw [n_s]; exact kk
      · refine .inl ⟨v ||| (1 <<< (((-1) - (xi σ 4 (8 * row + k))) &&& 31)), ?_, fun q X kk => ?_⟩
        · intro i
          rw [ev]
          constructor
          · rintro ⟨j, h1, h2, h3⟩
            exact ⟨j, by omega, h2, h3, fun j' hj' => hn j' (by omega)⟩
          · rintro ⟨j, h1, h2, h3, h4⟩
            refine ⟨j, ?_, h2, h3⟩
            exact Classical.byContradiction (fun q => d (h4 k (by omega)))
        · exact sg_S_rulesAtLeft_4_fffr X σ _ _ _ row (8 * row + k) _ rfl hr c13 e22 (by omega) e32 t (by rw [pI_0]; exact fun z => d (hs.mp z)) kk
    · have e32 : ¬ b2i (decide (0 ≤ xi σ 4 (8 * row + k))) = 0 := by rw [ek, tok_1 hy.1 hy.2 c]; decide
      have d : ¬ nulS g (gY g row k) := fun z => c z.1
      refine .inl ⟨v, ?_, fun q X kk => sg_S_rulesAtLeft_4_ftfr X σ _ _ _ row (8 * row + k) _ rfl hr c13 e22 (by omega) e32 t (by rw [pI_0]; exact fun z => d (hs.mp z)) kk⟩
      intro i
      rw [hv]
      constructor
      · rintro ⟨j, h1, h2, h3⟩
        exact ⟨j, by omega, h2, h3, fun j' hj' => hn j' (by omega)⟩
      · rintro ⟨j, h1, h2, h3, h4⟩
        have hne : j ≠ k := fun e => c (e ▸ h2)
        refine ⟨j, ?_, h2, h3⟩
        exact Classical.byContradiction (fun q => d (h4 k (by omega)))) (by
    intro v ⟨hn, hv⟩
    refine ⟨v, fun i => ?_, fun q X kk => sg_S_rulesAtLeft_4_tr X σ _ _ _ row rfl hr (by rw [hg.2.2.1 row hr, n_le (by omega) (by omega)]; omega) kk⟩
    rw [hv]
    exact ⟨fun ⟨j, h1, h2, h3⟩ => ⟨j, h1, h2, h3, fun j' hj' => hn j' (by omega)⟩, fun ⟨j, h1, h2, h3, _⟩ => ⟨j, h1, h2, h3⟩⟩) 0 0 (Nat.zero_le _) ⟨fun j hj => by omega, fun i => by rw [tc_0]; simp⟩
  refine ⟨v, h1, ?_⟩
  refine Ct.of (by decide +kernel) (Nat.le_of_ble_eq_true rfl) (fun K X => ?_)
  exact sg_S_rulesAtLeft_0_4 X σ _ (h2 (K, _, _) X ⟨rfl, rfl⟩)
theorem k_findLeft1 (G : GG) {g : Gr} {σ : St} (hw : WF g) (hg : GC g σ) (hN : ∀ i, tc (xi σ 5 3) i = true ↔ Nul g i) :
    ∃ f, (∀ x, x < gR g → ∀ i, tc (f x) i = true ↔ Lf0 g x i) ∧ ∀ q, (fun q : KQ => Bd q.1 G q.2.1 "FirstTrees$Study" c_S_findLeft 3 none rm_S_findLeft) q →
      Lb q.1 G q.2.1 q.2.2 3 66 [(0, .ref (xa σ 5)), (1, .int (nI 0))] [] (WC G (si σ 6 f)) 0 0 → Lb q.1 G q.2.1 q.2.2 3 2 [(0, .ref (xa σ 5)), (1, .int (nI 0))] [] (WC G σ) 0 0 := by
  have h16 := hw.r
  obtain ⟨f, h1, h2⟩ := iterL (C := fun q : KQ => Bd q.1 G q.2.1 "FirstTrees$Study" c_S_findLeft 3 none rm_S_findLeft) (gR g) (fun x f => ∀ y, y < x → ∀ i, tc (f y) i = true ↔ Lf0 g y i)
    (fun q x f => Lb q.1 G q.2.1 q.2.2 3 2 [(0, .ref (xa σ 5)), (1, .int (nI x))] [] (WC G (si σ 6 f)) 0 0) (by
    intro x f hx hf
    have h8 := hw.a x
    have c10 : ¬ xi (si σ 6 f) 1 0 ≤ nI x := by rw [show xi (si σ 6 f) 1 0 = xi σ 1 0 from rfl, hg.1, n_le (by omega) (by omega)]; omega
    obtain ⟨f2, h3, h4⟩ := iterL (C := fun q : KQ => Bd q.1 G q.2.1 "FirstTrees$Study" c_S_findLeft 3 none rm_S_findLeft) (gA g x) (fun a f => (∀ y, y < x → ∀ i, tc (f y) i = true ↔ Lf0 g y i) ∧ ∀ i, tc (f x) i = true ↔ ∃ b, b < a ∧ atL g (8 * x + b) i)
      (fun q a f => Lb q.1 G q.2.1 q.2.2 3 22 [(0, .ref (xa σ 5)), (1, .int (nI x)), (2, .int (nI a))] [] (WC G (si σ 6 f)) 0 0) (by
      intro a f ha ⟨hf, hfx⟩
      have hg' : GC g (si σ 6 f) := hg.of rfl rfl rfl rfl
      have c31 : ¬ altC (si σ 6 f) x ≤ nI a := by rw [altC_eq hw hg' hx, n_le (by omega) (by omega)]; omega
      obtain ⟨v, hv, t⟩ := k_rulesAtLeft G (σ := si σ 6 f) hw hg' hN (row := 8 * x + a) (by omega)
      rw [← n8] at t
      refine ⟨upd f x (f x ||| v), ⟨fun y hy i => ?_, fun i => ?_⟩, fun q X k => ?_⟩
      · rw [upd_ne _ _ (by omega)]; exact hf y hy i
      · rw [upd_at, tc_or, Bool.or_eq_true, hfx, hv]
        constructor
        · rintro (⟨b, h1, h2⟩ | h)
          · exact ⟨b, by omega, h2⟩
          · exact ⟨a, by omega, h⟩
        · rintro ⟨b, h1, h2⟩
          by_cases e : b = a
          · subst e; exact .inr h2
          · exact .inl ⟨b, by omega, h2⟩
      · refine sg_S_findLeft_22_f22 X (si σ 6 f) _ _ x v rfl (by omega) c31 t ?_
        rw [n_s, wi_si]; exact k) 0 (upd f x 0) (Nat.zero_le _) ⟨fun y hy i => by rw [upd_ne _ _ (by omega)]; exact hf y hy i, fun i => by rw [upd_at, tc_0]; simp⟩
    refine ⟨f2, fun y hy i => ?_, fun q X k => ?_⟩
    · by_cases e : y = x
      · subst e; exact h3.2 i
      · exact h3.1 y (by omega) i
    · refine sg_S_findLeft_2_f22 X (si σ 6 f) _ x c10 rfl (by omega) ?_
      rw [wi_si]
      refine h4 q X ?_
      have hg' : GC g (si σ 6 f2) := hg.of rfl rfl rfl rfl
      refine sg_S_findLeft_22_t2 X (si σ 6 f2) _ _ x rfl (by omega) ?_ ?_
      · rw [altC_eq hw hg' hx, n_le (by omega) (by omega)]; omega
      · rw [n_s]; exact k) 0 (xi σ 6) (Nat.zero_le _) (fun y hy => by omega)
  simp only [si_id] at h2
  refine ⟨f, h1, fun q X k => h2 q X ?_⟩
  refine sg_S_findLeft_2_t66 X (si σ 6 f) _ ?_ k
  rw [show xi (si σ 6 f) 1 0 = xi σ 1 0 from rfl, hg.1, n_le (by omega) (by omega)]; omega
theorem k_findLeft (G : GG) {g : Gr} {σ : St} (hw : WF g) (hg : GC g σ) (hN : ∀ i, tc (xi σ 5 3) i = true ↔ Nul g i) :
    ∃ f, (∀ x, x < gR g → ∀ i, tc (f x) i = true ↔ Lf g x i) ∧ Ct y_S_findLeft c_S_findLeft 3 none rm_S_findLeft G [.ref (xa σ 5)] (WC G σ) (eqp none (WC G (si σ 6 f))) := by
  have h16 := hw.r
  obtain ⟨f1, h1, k1⟩ := k_findLeft1 G hw hg hN
  obtain ⟨f2, h2, k2⟩ := iterL (C := fun q : KQ => Bd q.1 G q.2.1 "FirstTrees$Study" c_S_findLeft 3 none rm_S_findLeft) (gR g) (fun z f => ∀ y, y < gR g → ∀ i, tc (f y) i = true ↔ Wl g z y i)
    (fun q z f => Lb q.1 G q.2.1 q.2.2 3 66 [(0, .ref (xa σ 5)), (1, .int (nI z))] [] (WC G (si σ 6 f)) 0 0) (by
    intro z f hz hf
    have c74 : ¬ xi (si σ 6 f) 1 0 ≤ nI z := by rw [show xi (si σ 6 f) 1 0 = xi σ 1 0 from rfl, hg.1, n_le (by omega) (by omega)]; omega
    obtain ⟨f2, h3, h4⟩ := iterL (C := fun q : KQ => Bd q.1 G q.2.1 "FirstTrees$Study" c_S_findLeft 3 none rm_S_findLeft) (gR g) (fun x f => ∀ y, y < gR g → ∀ i, tc (f y) i = true ↔ (if y < x then Wl g (z + 1) y i else Wl g z y i))
      (fun q x f => Lb q.1 G q.2.1 q.2.2 3 79 [(0, .ref (xa σ 5)), (1, .int (nI z)), (2, .int (nI x))] [] (WC G (si σ 6 f)) 0 0) (by
      intro x f hx hf
      have c87 : ¬ xi (si σ 6 f) 1 0 ≤ nI x := by rw [show xi (si σ 6 f) 1 0 = xi σ 1 0 from rfl, hg.1, n_le (by omega) (by omega)]; omega
      have hxz := hf x hx z
      rw [if_neg (by omega)] at hxz
      have hz' : ∀ i, tc (f z) i = true ↔ Wl g z z i := by
        intro i
        rw [hf z hz i]
        split
        · exact Wl_row
        · exact Iff.rfl
      have hx' := hf x hx
      by_cases c : Wl g z x z
      · refine ⟨upd f x (f x ||| f z), fun y hy i => ?_, fun q X k => ?_⟩
        · by_cases e : y = x
          · subst e
            rw [upd_at, tc_or, Bool.or_eq_true, hx', hz', if_neg (by omega), if_pos (by omega)]
            exact ⟨fun h => h.elim .inl (fun h => .inr ⟨c, h⟩), fun h => h.elim .inl (fun h => .inr h.2)⟩
          · rw [upd_ne _ _ e, hf y hy i]
            by_cases q : y < x
            · rw [if_pos q, if_pos (by omega)]
            · rw [if_neg q, if_neg (by omega)]
        · refine sg_S_findLeft_79_ff79 X (si σ 6 f) _ _ x z c87 rfl (by omega) ?_ rfl (by omega) ?_
          · show ¬ hasB (Int32.toInt64 (f x)) (nI z) = 0
            rw [hasB_eq (by omega), tb_i2l (by omega), if_pos (hxz.mpr c)]; decide
          · rw [n_s, wi_si]; exact k
      · refine ⟨f, fun y hy i => ?_, fun q X k => ?_⟩
        · rw [hf y hy i]
          by_cases e : y = x
          · subst e
            rw [if_neg (by omega), if_pos (by omega)]
            exact ⟨.inl, fun h => h.elim id (fun h => absurd h.1 c)⟩
          · by_cases q : y < x
            · rw [if_pos q, if_pos (by omega)]
            · rw [if_neg q, if_neg (by omega)]
        · refine sg_S_findLeft_79_ft79 X (si σ 6 f) _ _ x c87 rfl (by omega) ?_ ?_
          · show hasB (Int32.toInt64 (f x)) (nI z) = 0
            rw [hasB_eq (by omega), tb_i2l (by omega), if_neg (fun q => c (hxz.mp q))]
          · rw [n_s]; exact k) 0 f (Nat.zero_le _) (fun y hy i => by rw [if_neg (by omega)]; exact hf y hy i)
    refine ⟨f2, fun y hy i => by rw [h3 y hy i, if_pos hy], fun q X k => ?_⟩
    refine sg_S_findLeft_66_f79 X (si σ 6 f) _ c74 (h4 q X ?_)
    refine sg_S_findLeft_79_t66 X (si σ 6 f2) _ _ ?_ ?_
    · rw [show xi (si σ 6 f2) 1 0 = xi σ 1 0 from rfl, hg.1, n_le (by omega) (by omega)]; omega
    · rw [n_s]; exact k) 0 f1 (Nat.zero_le _) h1
  refine ⟨f2, h2, ?_⟩
  refine Ct.of (by decide +kernel) (Nat.le_of_ble_eq_true rfl) (fun K X => ?_)
  refine sg_S_findLeft_0_2 X σ (k1 (K, _, _) X (k2 (K, _, _) X ?_))
  exact sg_S_findLeft_66_tr X (si σ 6 f2) _ (by rw [show xi (si σ 6 f2) 1 0 = xi σ 1 0 from rfl, hg.1, n_le (by omega) (by omega)]; omega) ⟨rfl, rfl⟩
