/-! the reference's first and following sets -/
theorem bM_iff {g : Gr} {τ : St} (hw : WF g) (hN : ∀ i, i < 16 → xi τ 4 i = pI (Nul g i)) (y : Nat) : bM τ y = true ↔ Nul g y := by
  simp only [bM, bF, Bool.and_eq_true, decide_eq_true_eq]
  constructor
  · rintro ⟨h1, h2⟩; rw [hN y h1, pI_n0] at h2; exact h2
  · intro h
    have := Nul_lt h
    have := hw.r
    have h1 : y < 16 := by omega
    exact ⟨h1, by rw [hN y h1, pI_n0]; exact h⟩
theorem m_firstOf (G : GG) {g : Gr} {τ : St} (hw : WF g) (hg : GM g τ) (hN : ∀ i, i < 16 → xi τ 4 i = pI (Nul g i)) {x a f : Nat} (hr : 8 * x + a < 128) (hf : f < 10) :
    ∃ r, (∀ t, tb r t = true ↔ rowFst g (bS (xl τ 14)) (8 * x + a) f t) ∧ Ct y_M_firstOf c_M_firstOf 9 (some .long) rm_M_firstOf G [.ref (xa τ 0), .int (nI x), .int (nI a), .int (nI f)] (WM G τ) (eqp (some (.long r)) (WM G τ)) := by
  have hl := hw.l (8 * x + a)
  refine exE (iterE (α := Int64 × Int32) (β := Int64) (C := fun q : KP => Bd q.1 G q.2.1 "FirstTreesModel" c_M_firstOf 9 (some .long) rm_M_firstOf) (max f (gL g (8 * x + a)))
    (fun k b => f ≤ k ∧ b.2 = pI (∀ j, f ≤ j → j < k → nulS g (gY g (8 * x + a) j)) ∧ ∀ t, tb b.1 t = true ↔ ∃ j, f ≤ j ∧ j < k ∧ (∀ i, f ≤ i → i < j → nulS g (gY g (8 * x + a) i)) ∧ symFst (bS (xl τ 14)) (gY g (8 * x + a) j) t)
    (fun q k b => Lb q.1 G q.2.1 (Qe q.1 G q.2.1 q.2.2 rm_M_firstOf) 9 9 [(0, .ref (xa τ 0)), (1, .int (nI x)), (2, .int (nI a)), (3, .int (nI f)), (4, .long b.1), (6, .int b.2), (7, .int (nI k))] [] (WM G τ) 0 0)
    (fun r => ∀ t, tb r t = true ↔ rowFst g (bS (xl τ 14)) (8 * x + a) f t) (fun q r => q.2.2 (some (.long r)) (WM G τ)) ?_ ?_ f (0, 1) (by omega) ⟨Nat.le_refl _, (pI_t (fun j h1 h2 => by omega)).symm, fun t => ?_⟩) (fun r h1 k1 => ?_)
  · intro k ⟨w, b⟩ hk ⟨h0, hb, hw'⟩
    have h0 : f ≤ k := h0
    have hb : b = pI (∀ j, f ≤ j → j < k → nulS g (gY g (8 * x + a) j)) := hb
    have hw' : ∀ t, tb w t = true ↔ ∃ j, f ≤ j ∧ j < k ∧ (∀ i, f ≤ i → i < j → nulS g (gY g (8 * x + a) i)) ∧ symFst (bS (xl τ 14)) (gY g (8 * x + a) j) t := hw'
    have hkl : k < gL g (8 * x + a) := by omega
    have e14 := m8 x a
    have e30 := m64 x a k
    have c17 : ¬ xi τ 2 (8 * x + a) ≤ nI k := by rw [hg.2.2.1 _ hr, n_le (by omega) (by omega)]; omega
    by_cases c : ∀ j, f ≤ j → j < k → nulS g (gY g (8 * x + a) j)
    · rw [pI_t c] at hb
      subst hb
      have hy := hw.y (8 * x + a) k
      have hrl := hw.rl (8 * x + a) k
      have ek : xi τ 3 (8 * (8 * x + a) + k) = sI (gY g (8 * x + a) k) := hg.2.2.2 _ (by omega)
      have nx : ∀ u : Int64, (∀ t, tb u t = true ↔ symFst (bS (xl τ 14)) (gY g (8 * x + a) k) t) → ∀ t, tb (w ||| u) t = true ↔ ∃ j, f ≤ j ∧ j < k + 1 ∧ (∀ i, f ≤ i → i < j → nulS g (gY g (8 * x + a) i)) ∧ symFst (bS (xl τ 14)) (gY g (8 * x + a) j) t := by
        intro u hu t
        rw [tb_or, Bool.or_eq_true, hw', hu]
        constructor
        · rintro (⟨j, q1, q2, q3⟩ | q)
          · exact ⟨j, q1, by omega, q3⟩
          · exact ⟨k, h0, by omega, fun i q1 q2 => c i q1 q2, q⟩
        · rintro ⟨j, q1, q2, q3⟩
          by_cases ej : j = k
          · subst ej; exact .inr q3.2
          · exact .inl ⟨j, q1, by omega, q3⟩
      by_cases d : gY g (8 * x + a) k < 0
      · have c42 : ¬ b2i (decide (xi τ 3 (8 * (8 * x + a) + k) < 0)) = 0 := by rw [ek, isr_1 hy.1 hy.2 d]; decide
        have e53 : (-1 : Int32) - xi τ 3 (8 * (8 * x + a) + k) = nI (rl (gY g (8 * x + a) k)) := by rw [ek, rl_sI d]
        have hu : ∀ t, tb (xl τ 14 (rl (gY g (8 * x + a) k))) t = true ↔ symFst (bS (xl τ 14)) (gY g (8 * x + a) k) t := fun t => ⟨fun q => .inr ⟨d, q⟩, fun q => q.elim (fun q => by omega) (fun q => q.2)⟩
        by_cases n : Nul g (rl (gY g (8 * x + a) k))
        · refine .inr ⟨(w ||| xl τ 14 (rl (gY g (8 * x + a) k)), 1), ⟨by omega, (pI_t (fun j q1 q2 => ?_)).symm, nx _ hu⟩, fun q X kk => ?_⟩
          · by_cases ej : j = k
            · rw [ej]; exact ⟨d, n⟩
            · exact c j q1 (by omega)
          · refine sg_M_firstOf_9_fffff9 X τ _ _ _ _ _ _ (8 * x + a) (8 * (8 * x + a) + k) (rl (gY g (8 * x + a) k)) e14 hr c17 i1n0 e30 (by omega) c42 e53 hrl c42 (by rw [hN _ hrl, pI_n0]; exact n) ?_
            rw [n_s]; exact kk
        · refine .inr ⟨(w ||| xl τ 14 (rl (gY g (8 * x + a) k)), 0), ⟨by omega, (pI_f (fun q => n (q k h0 (by omega)).2)).symm, nx _ hu⟩, fun q X kk => ?_⟩
          refine sg_M_firstOf_9_fffft9 X τ _ _ _ _ _ _ (8 * x + a) (8 * (8 * x + a) + k) (rl (gY g (8 * x + a) k)) e14 hr c17 i1n0 e30 (by omega) c42 e53 hrl c42 (by rw [hN _ hrl, pI_0]; exact n) ?_
          rw [n_s]; exact kk
      · have c42 : b2i (decide (xi τ 3 (8 * (8 * x + a) + k) < 0)) = 0 := by rw [ek]; exact isr_0 hy.1 hy.2 d
        have hu : ∀ t, tb (shlL 1 (xi τ 3 (8 * (8 * x + a) + k))) t = true ↔ symFst (bS (xl τ 14)) (gY g (8 * x + a) k) t := by
          intro t
          rw [ek, nN (by omega), tb_shlL (by omega), decide_eq_true_eq]
          exact ⟨fun q => .inl ⟨by omega, by omega⟩, fun q => q.elim (fun q => by omega) (fun q => absurd q.1 d)⟩
        refine .inr ⟨(w ||| shlL 1 (xi τ 3 (8 * (8 * x + a) + k)), 0), ⟨by omega, (pI_f (fun q => d (q k h0 (by omega)).1)).symm, nx _ hu⟩, fun q X kk => ?_⟩
        refine sg_M_firstOf_9_fftt9 X τ _ _ _ _ _ _ (8 * x + a) (8 * (8 * x + a) + k) e14 hr c17 i1n0 e30 (by omega) c42 c42 ?_
        rw [n_s]; exact kk
    · rw [pI_f c] at hb
      subst hb
      refine .inl ⟨w, fun t => ?_, fun q X kk => sg_M_firstOf_9_ftr X τ _ _ _ _ _ _ (8 * x + a) e14 hr c17 rfl kk⟩
      rw [hw']
      constructor
      · rintro ⟨j, q1, q2, q3, q4⟩; exact ⟨j, q1, by omega, q3, q4⟩
      · rintro ⟨j, q1, q2, q3, q4⟩
        refine ⟨j, q1, ?_, q3, q4⟩
        exact Classical.byContradiction (fun q => c (fun i p1 p2 => q3 i p1 (by omega)))
  · intro ⟨w, b⟩ ⟨h0, hb, hw'⟩
    refine ⟨w, fun t => ?_, fun q X kk => sg_M_firstOf_9_tr X τ _ _ _ _ _ _ (8 * x + a) (m8 x a) hr (by rw [hg.2.2.1 _ hr, n_le (by omega) (by omega)]; omega) kk⟩
    have hw' : tb w t = true ↔ ∃ j, f ≤ j ∧ j < max f (gL g (8 * x + a)) ∧ (∀ i, f ≤ i → i < j → nulS g (gY g (8 * x + a) i)) ∧ symFst (bS (xl τ 14)) (gY g (8 * x + a) j) t := hw' t
    rw [hw']
    constructor
    · rintro ⟨j, q1, q2, q3, q4⟩; exact ⟨j, q1, by omega, q3, q4⟩
    · rintro ⟨j, q1, q2, q3, q4⟩; exact ⟨j, q1, by omega, q3, q4⟩
  · show tb 0 t = true ↔ _
    rw [tb_0]; exact ⟨fun q => (by cases q), fun ⟨j, q1, q2, _⟩ => by omega⟩
  · refine ⟨r, h1, ?_⟩
    refine Ct.of (by decide +kernel) (Nat.le_of_ble_eq_true rfl) (fun K X => ?_)
    exact sg_M_firstOf_0_9 X τ _ _ _ (k1 (K, _, _) X ⟨rfl, rfl⟩)
theorem m_fS_first (G : GG) {g : Gr} {τ : St} (hw : WF g) (hg : GM g τ) (h2 : NoF (F2 g) (gR g)) (h4 : NoF (F4 g) (gR g)) (hN : ∀ i, i < 16 → xi τ 4 i = pI (Nul g i)) (f0 : Nat → Int64) (h0 : ∀ x, x < 16 → f0 x = 0) :
    ∃ f, (∀ x, x < gR g → ∀ t, tb (f x) t = true ↔ Fst g x t) ∧ ∀ q, (fun q : KP => Bd q.1 G q.2.1 "FirstTreesModel" c_M_findSets 4 none rm_M_findSets) q → Lb q.1 G q.2.1 (Qe q.1 G q.2.1 q.2.2 rm_M_findSets) 4 40 [(0, .ref (xa τ 0)), (1, .int (nI (gR g)))] [] (WM G (sl τ 14 f)) 0 0 →
      Lb q.1 G q.2.1 (Qe q.1 G q.2.1 q.2.2 rm_M_findSets) 4 40 [(0, .ref (xa τ 0)), (1, .int (nI 0))] [] (WM G (sl τ 14 f0)) 0 0 := by
  have h16 := hw.r
  obtain ⟨f, ⟨a1, a2⟩, k1⟩ := iterL (α := Nat → Int64) (C := fun q : KP => Bd q.1 G q.2.1 "FirstTreesModel" c_M_findSets 4 none rm_M_findSets) (gR g) (fun i f => (∀ x, x < gR g → ∀ t, tb (f x) t = true → Fst g x t) ∧ ∀ x, x < gR g → rk g x < i → ∀ t, Fst g x t → tb (f x) t = true)
    (fun q i f => Lb q.1 G q.2.1 (Qe q.1 G q.2.1 q.2.2 rm_M_findSets) 4 40 [(0, .ref (xa τ 0)), (1, .int (nI i))] [] (WM G (sl τ 14 f)) 0 0) (by
    intro i f hi ⟨a1, a2⟩
    obtain ⟨f', ⟨b1, b2, b3⟩, k2⟩ := iterL (α := Nat → Int64) (C := fun q : KP => Bd q.1 G q.2.1 "FirstTreesModel" c_M_findSets 4 none rm_M_findSets) (gR g) (fun x f => (∀ x, x < gR g → ∀ t, tb (f x) t = true → Fst g x t) ∧ (∀ x, x < gR g → rk g x < i → ∀ t, Fst g x t → tb (f x) t = true) ∧ ∀ y, y < x → rk g y < i + 1 → ∀ t, Fst g y t → tb (f y) t = true)
      (fun q x f => Lb q.1 G q.2.1 (Qe q.1 G q.2.1 q.2.2 rm_M_findSets) 4 50 [(0, .ref (xa τ 0)), (1, .int (nI i)), (2, .int (nI x))] [] (WM G (sl τ 14 f)) 0 0) (by
      intro x f hx ⟨b1, b2, b3⟩
      have h8 := hw.a x
      obtain ⟨f', ⟨c1, c2, c3, c4⟩, k3⟩ := iterL (α := Nat → Int64) (C := fun q : KP => Bd q.1 G q.2.1 "FirstTreesModel" c_M_findSets 4 none rm_M_findSets) (gA g x) (fun a f' => (∀ x, x < gR g → ∀ t, tb (f' x) t = true → Fst g x t) ∧ (∀ y t, tb (f y) t = true → tb (f' y) t = true) ∧ (∀ y, y ≠ x → f' y = f y) ∧ (rk g x < i + 1 → ∀ b, b < a → ∀ t, rowFst g (Fst g) (8 * x + b) 0 t → tb (f' x) t = true))
        (fun q a f' => Lb q.1 G q.2.1 (Qe q.1 G q.2.1 q.2.2 rm_M_findSets) 4 60 [(0, .ref (xa τ 0)), (1, .int (nI i)), (2, .int (nI x)), (3, .int (nI a))] [] (WM G (sl τ 14 f')) 0 0) (by
        intro a f' ha ⟨c1, c2, c3, c4⟩
        have hg' : GM g (sl τ 14 f') := hg.of rfl rfl rfl rfl
        obtain ⟨r, hr, t0⟩ := m_firstOf G (τ := sl τ 14 f') hw hg' hN (x := x) (a := a) (f := 0) (by omega) (by omega)
        rw [xl_sl] at hr
        have hsub : ∀ t, tb r t = true → Fst g x t := fun t q => (Fst_iff hx t).mpr ⟨a, ha, by
          obtain ⟨j, q1, q2, q3, q4⟩ := (hr t).mp q
          refine ⟨j, q1, q2, q3, q4.elim .inl (fun w => .inr ⟨w.1, c1 _ (rl_lt h2 hx ha q2 w.1) t w.2⟩)⟩⟩
        refine ⟨vp_updL f' x (f' x ||| r), ⟨?_, ?_, ?_, ?_⟩, fun q X kk => ?_⟩
        · intro y hy t
          by_cases e : y = x
          · subst e
            rw [updL_at, tb_or, Bool.or_eq_true]
            rintro (q | q)
            · exact c1 y hy t q
            · exact hsub t q
          · rw [updL_ne _ _ e]; exact c1 y hy t
        · intro y t q
          by_cases e : y = x
          · subst e
            rw [updL_at, tb_or, Bool.or_eq_true]; exact .inl (c2 y t q)
          · rw [updL_ne _ _ e]; exact c2 y t q
        · intro y e; rw [updL_ne _ _ e]; exact c3 y e
        · intro hk b hb t hb2
          rw [updL_at, tb_or, Bool.or_eq_true]
          by_cases e : b = a
          · subst e
            refine .inr ((hr t).mpr ?_)
            obtain ⟨j, q1, q2, q3, q4⟩ := hb2
            refine ⟨j, q1, q2, q3, q4.elim .inl (fun w => .inr ⟨w.1, ?_⟩)⟩
            have hlf : Lf g x (rl (gY g (8 * x + b) j)) := Lf_of ⟨b, ha, j, q2, w.1, rfl, fun i hi => q3 i (Nat.zero_le _) hi⟩
            have hlt := rk_lt h2 h4 hx hlf
            exact c2 _ t (b2 _ (rl_lt h2 hx ha q2 w.1) (by omega) t w.2)
          · exact .inl (c4 hk b (by omega) t hb2)
        · refine sg_M_findSets_60_f60 X (sl τ 14 f') _ _ _ x r rfl (by omega) (by rw [hg'.2.1 x (by omega), n_le (by omega) (by omega)]; omega) t0 ?_
          rw [n_s, wl_sl, xl_sl]; exact kk) 0 f (Nat.zero_le _) ⟨b1, fun _ _ h => h, fun _ _ => rfl, fun _ b hb => absurd hb (Nat.not_lt_zero _)⟩
      have hg' : GM g (sl τ 14 f) := hg.of rfl rfl rfl rfl
      have hg2 : GM g (sl τ 14 f') := hg.of rfl rfl rfl rfl
      refine ⟨f', ⟨c1, fun y hy hk t h => c2 y t (b2 y hy hk t h), fun y hy hk t h => ?_⟩, fun q X kk => ?_⟩
      · by_cases e : y = x
        · subst e
          obtain ⟨b, hb, hb2⟩ := (Fst_iff hx t).mp h
          exact c4 hk b hb t hb2
        · exact c2 y t (b3 y (by omega) hk t h)
      · refine sg_M_findSets_50_f60 X (sl τ 14 f) _ _ (by rw [hg'.1, n_le (by omega) (by omega)]; omega) (k3 q X ?_)
        refine sg_M_findSets_60_t50 X (sl τ 14 f') _ _ _ x rfl (by omega) (by rw [hg2.2.1 x (by omega), n_le (by omega) (by omega)]; omega) ?_
        rw [n_s]; exact kk) 0 f (Nat.zero_le _) ⟨a1, a2, fun y hy => absurd hy (Nat.not_lt_zero _)⟩
    have hg' : GM g (sl τ 14 f) := hg.of rfl rfl rfl rfl
    have hg2 : GM g (sl τ 14 f') := hg.of rfl rfl rfl rfl
    refine ⟨f', ⟨b1, b3⟩, fun q X kk => ?_⟩
    refine sg_M_findSets_40_f50 X (sl τ 14 f) _ (by rw [hg'.1, n_le (by omega) (by omega)]; omega) (k2 q X ?_)
    refine sg_M_findSets_50_t40 X (sl τ 14 f') _ _ (by rw [hg2.1, n_le (by omega) (by omega)]; omega) ?_
    rw [n_s]; exact kk) 0 f0 (Nat.zero_le _) ⟨fun x hx t h => (by rw [h0 x (by omega), tb_0] at h; cases h), fun x _ hk => absurd hk (Nat.not_lt_zero _)⟩
  exact ⟨f, fun x hx t => ⟨a1 x hx t, a2 x hx (rk_bd h4 hx) t⟩, k1⟩
theorem m_followAlong (G : GG) {g : Gr} {τ : St} (hw : WF g) (hg : GM g τ) (h2 : NoF (F2 g) (gR g)) (hN : ∀ i, i < 16 → xi τ 4 i = pI (Nul g i)) (hF : ∀ x, x < gR g → ∀ t, tb (xl τ 14 x) t = true ↔ Fst g x t)
    {x a : Nat} (hx : x < gR g) (ha : a < gA g x) (B0 : Nat → Nat → Prop) (D : Nat → Nat → Nat → Prop) (f : Nat → Int64) (hP : PassW g B0 (fun y t => bW g f y t = true) D) :
    ∃ f', PassW g B0 (fun y t => bW g f' y t = true) (fun y b j => D y b j ∨ (y = x ∧ b = a ∧ j < gL g (8 * x + a) ∧ gY g (8 * x + a) j < 0)) ∧
      Ct y_M_followAlong c_M_followAlong 5 none rm_M_followAlong G [.ref (xa τ 0), .int (nI x), .int (nI a)] (WM G (sl τ 15 f)) (eqp none (WM G (sl τ 15 f'))) := by
  have h16 := hw.r
  have h8 := hw.a x
  have hl := hw.l (8 * x + a)
  have hr : 8 * x + a < 128 := by omega
  obtain ⟨f', h1, k1⟩ := iterL (α := Nat → Int64) (C := fun q : KP => Bd q.1 G q.2.1 "FirstTreesModel" c_M_followAlong 5 none rm_M_followAlong) (gL g (8 * x + a)) (fun k f => PassW g B0 (fun y t => bW g f y t = true) (fun y b j => D y b j ∨ (y = x ∧ b = a ∧ j < k ∧ gY g (8 * x + a) j < 0)))
    (fun q k f => Lb q.1 G q.2.1 (Qe q.1 G q.2.1 q.2.2 rm_M_followAlong) 5 2 [(0, .ref (xa τ 0)), (1, .int (nI x)), (2, .int (nI a)), (3, .int (nI k))] [] (WM G (sl τ 15 f)) 0 0) (by
    intro k f hk hP
    have hg' : GM g (sl τ 15 f) := hg.of rfl rfl rfl rfl
    have e6 := m8 x a
    have e16 := m64 x a k
    have hy := hw.y (8 * x + a) k
    have hrl := hw.rl (8 * x + a) k
    have c9 : ¬ xi (sl τ 15 f) 2 (8 * x + a) ≤ nI k := by rw [hg'.2.2.1 _ hr, n_le (by omega) (by omega)]; omega
    have ek : xi (sl τ 15 f) 3 (8 * (8 * x + a) + k) = sI (gY g (8 * x + a) k) := hg'.2.2.2 _ (by omega)
    have hD : ∀ y b j, (D y b j ∨ (y = x ∧ b = a ∧ j < k + 1 ∧ gY g (8 * x + a) j < 0)) → ((D y b j ∨ (y = x ∧ b = a ∧ j < k ∧ gY g (8 * x + a) j < 0)) ∨ (y = x ∧ b = a ∧ j = k ∧ gY g (8 * x + a) k < 0)) := by
      rintro y b j (q | ⟨q1, q2, q3, q4⟩)
      · exact .inl (.inl q)
      · by_cases e : j = k
        · subst e; exact .inr ⟨q1, q2, rfl, q4⟩
        · exact .inl (.inr ⟨q1, q2, by omega, q4⟩)
    by_cases c : gY g (8 * x + a) k < 0
    · have hy' := rl_lt h2 hx ha hk c
      have c26 : ¬ b2i (decide (xi (sl τ 15 f) 3 (8 * (8 * x + a) + k) < 0)) = 0 := by rw [ek, isr_1 hy.1 hy.2 c]; decide
      have e45 : (-1 : Int32) - xi (sl τ 15 f) 3 (8 * (8 * x + a) + k) = nI (rl (gY g (8 * x + a) k)) := by rw [ek, rl_sI c]
      obtain ⟨r, hr', t⟩ := m_firstOf G (τ := sl τ 15 f) hw hg' hN (x := x) (a := a) (f := k + 1) hr (by omega)
      have hr2 : ∀ t, tb r t = true ↔ rowFst g (Fst g) (8 * x + a) (k + 1) t := fun t => by
        rw [hr' t]
        exact rowFst_congr (fun j q1 q2 q3 _ => hF _ (rl_lt h2 hx ha q2 q3) t)
      have e1 : wl (sl τ 15 f) 15 (rl (gY g (8 * x + a) k)) (xl (sl τ 15 f) 15 (rl (gY g (8 * x + a) k)) ||| r) = sl τ 15 (vp_updL f (rl (gY g (8 * x + a) k)) (f (rl (gY g (8 * x + a) k)) ||| r)) := by rw [wl_sl, xl_sl]
      have tn := m_rowN G (τ := sl τ 15 (vp_updL f (rl (gY g (8 * x + a) k)) (f (rl (gY g (8 * x + a) k)) ||| r))) hw (hg.of rfl rfl rfl rfl) (r := x) (a := a) (f := k + 1) hr (by omega)
      rw [← e1] at tn
      have hnn : rowN g (fun y => bM (wl (sl τ 15 f) 15 (rl (gY g (8 * x + a) k)) (xl (sl τ 15 f) 15 (rl (gY g (8 * x + a) k)) ||| r)) y = true) (8 * x + a) (k + 1) ↔ rowN g (Nul g) (8 * x + a) (k + 1) := rowN_congr (fun y => bM_iff (τ := wl (sl τ 15 f) 15 (rl (gY g (8 * x + a) k)) (xl (sl τ 15 f) 15 (rl (gY g (8 * x + a) k)) ||| r)) hw hN y)
      by_cases d : rowN g (Nul g) (8 * x + a) (k + 1)
      · let f1 := vp_updL f (rl (gY g (8 * x + a) k)) (f (rl (gY g (8 * x + a) k)) ||| r)
        refine ⟨vp_updL f1 (rl (gY g (8 * x + a) k)) (f1 (rl (gY g (8 * x + a) k)) ||| f1 x), ?_, fun q X kk => ?_⟩
        · refine (hP.step hx ha hk c (B' := fun y t => bW g (vp_updL f1 (rl (gY g (8 * x + a) k)) (f1 (rl (gY g (8 * x + a) k)) ||| f1 x)) y t = true) (fun t => bW g f x t = true) (fun t q => hP.1 x t q) (fun t q => q) ?_).mono (fun y b j q => ?_)
          · intro z t
            have hb : behind g (fun t => bW g f x t = true) (8 * x + a) k t ↔ (tb r t = true ∨ tb (f x) t = true) := by
              unfold behind
              rw [hr2]
              exact ⟨fun q => q.elim .inl (fun q => .inr ((bW_iff g f x t).mp q.2).2), fun q => q.elim .inl (fun q => .inr ⟨d, (bW_iff g f x t).mpr ⟨hx, q⟩⟩)⟩
            rw [hb]
            simp only [bW_iff]
            by_cases e : z = rl (gY g (8 * x + a) k)
            · subst e
              rw [updL_at, tb_or, Bool.or_eq_true]
              have ef1 : f1 (rl (gY g (8 * x + a) k)) = f (rl (gY g (8 * x + a) k)) ||| r := updL_at _ _ _
              rw [ef1, tb_or, Bool.or_eq_true]
              have ex : tb (f1 x) t = true → (tb (f (rl (gY g (8 * x + a) k))) t = true ∨ tb r t = true ∨ tb (f x) t = true) := by
                intro q
                by_cases e2 : x = rl (gY g (8 * x + a) k)
                · rw [← e2] at ef1
                  rw [ef1, tb_or, Bool.or_eq_true] at q
                  exact q.elim (fun q => .inr (.inr q)) (fun q => .inr (.inl q))
                · have : f1 x = f x := updL_ne _ _ e2
                  rw [this] at q; exact .inr (.inr q)
              have ex2 : tb (f x) t = true → tb (f1 x) t = true := by
                intro q
                by_cases e2 : x = rl (gY g (8 * x + a) k)
                · rw [← e2] at ef1; rw [ef1, tb_or, q]; rfl
                · have : f1 x = f x := updL_ne _ _ e2
                  rw [this]; exact q
              constructor
              · rintro ⟨_, (q | q) | q⟩
                · exact .inl ⟨hy', q⟩
                · exact .inr ⟨rfl, .inl q⟩
                · rcases ex q with q | q | q
                  · exact .inl ⟨hy', q⟩
                  · exact .inr ⟨rfl, .inl q⟩
                  · exact .inr ⟨rfl, .inr q⟩
              · rintro (q | ⟨_, q | q⟩)
                · exact ⟨hy', .inl (.inl q.2)⟩
                · exact ⟨hy', .inl (.inr q)⟩
                · exact ⟨hy', .inr (ex2 q)⟩
            · rw [updL_ne _ _ e]
              have : f1 z = f z := updL_ne _ _ e
              rw [this]
              exact ⟨.inl, fun q => q.elim id (fun q => absurd q.1 e)⟩
          · rcases hD y b j q with q | ⟨q1, q2, q3, _⟩
            · exact .inl q
            · exact .inr ⟨q1, q2, q3⟩
        · refine sg_M_followAlong_2_fff2 X (sl τ 15 f) _ _ _ (8 * x + a) (8 * (8 * x + a) + k) (rl (gY g (8 * x + a) k)) r _ x e6 hr c9 e16 (by omega) c26 e45 hrl (by rw [n_s]; exact t) (by rw [n_s]; exact tn) (by rw [pI_n0]; exact hnn.mpr d) rfl (by omega) ?_
          rw [e1, wl_sl, xl_sl, n_s]; exact kk
      · refine ⟨vp_updL f (rl (gY g (8 * x + a) k)) (f (rl (gY g (8 * x + a) k)) ||| r), ?_, fun q X kk => ?_⟩
        · refine (hP.step hx ha hk c (B' := fun y t => bW g (vp_updL f (rl (gY g (8 * x + a) k)) (f (rl (gY g (8 * x + a) k)) ||| r)) y t = true) (fun t => bW g f x t = true) (fun t q => hP.1 x t q) (fun t q => q) ?_).mono (fun y b j q => ?_)
          · intro z t
            have hb : behind g (fun t => bW g f x t = true) (8 * x + a) k t ↔ tb r t = true := by
              unfold behind
              rw [hr2]
              exact ⟨fun q => q.elim id (fun q => absurd q.1 d), .inl⟩
            rw [hb]
            simp only [bW_iff]
            by_cases e : z = rl (gY g (8 * x + a) k)
            · subst e
              rw [updL_at, tb_or, Bool.or_eq_true]
              exact ⟨fun q => q.2.elim (fun w => .inl ⟨q.1, w⟩) (fun w => .inr ⟨rfl, w⟩), fun q => q.elim (fun w => ⟨w.1, .inl w.2⟩) (fun w => ⟨hy', .inr w.2⟩)⟩
            · rw [updL_ne _ _ e]
              exact ⟨.inl, fun q => q.elim id (fun q => absurd q.1 e)⟩
          · rcases hD y b j q with q | ⟨q1, q2, q3, _⟩
            · exact .inl q
            · exact .inr ⟨q1, q2, q3⟩
        · refine sg_M_followAlong_2_fft2 X (sl τ 15 f) _ _ _ (8 * x + a) (8 * (8 * x + a) + k) (rl (gY g (8 * x + a) k)) r _ e6 hr c9 e16 (by omega) c26 e45 hrl (by rw [n_s]; exact t) (by rw [n_s]; exact tn) (by rw [pI_0]; exact fun q => d (hnn.mp q)) ?_
          rw [e1, n_s]; exact kk
    · refine ⟨f, hP.mono (fun y b j q => ?_), fun q X kk => ?_⟩
      · rcases hD y b j q with q | ⟨q1, q2, q3, q4⟩
        · exact q
        · exact absurd q4 c
      · refine sg_M_followAlong_2_ft2 X (sl τ 15 f) _ _ _ (8 * x + a) (8 * (8 * x + a) + k) e6 hr c9 e16 (by omega) (by rw [ek]; exact isr_0 hy.1 hy.2 c) ?_
        rw [n_s]; exact kk) 0 f (Nat.zero_le _) (hP.mono (fun y b j q => q.elim id (fun q => absurd q.2.2.1 (Nat.not_lt_zero _))))
  have hg' : GM g (sl τ 15 f') := hg.of rfl rfl rfl rfl
  refine ⟨f', h1, ?_⟩
  refine Ct.of (by decide +kernel) (Nat.le_of_ble_eq_true rfl) (fun K X => ?_)
  refine sg_M_followAlong_0_2 X (sl τ 15 f) _ _ (k1 (K, _, _) X ?_)
  exact sg_M_followAlong_2_tr X (sl τ 15 f') _ _ _ (8 * x + a) (m8 x a) hr (by rw [hg'.2.2.1 _ hr, n_le (by omega) (by omega)]; omega) ⟨rfl, rfl⟩
theorem m_fS_follow (G : GG) {g : Gr} {τ : St} (hw : WF g) (hg : GM g τ) (h2 : NoF (F2 g) (gR g)) (hN : ∀ i, i < 16 → xi τ 4 i = pI (Nul g i)) (hF : ∀ x, x < gR g → ∀ t, tb (xl τ 14 x) t = true ↔ Fst g x t) (f0 : Nat → Int64) (h0 : AfterW g 0 (bW g f0)) :
    ∃ f, (∀ x, x < gR g → ∀ t, tb (f x) t = true ↔ Fol g x t) ∧ ∀ q, (fun q : KP => Bd q.1 G q.2.1 "FirstTreesModel" c_M_findSets 4 none rm_M_findSets) q → Lb q.1 G q.2.1 (Qe q.1 G q.2.1 q.2.2 rm_M_findSets) 4 110 [(0, .ref (xa τ 0)), (1, .int (nI (gR g + 1)))] [] (WM G (sl τ 15 f)) 0 0 →
      Lb q.1 G q.2.1 (Qe q.1 G q.2.1 q.2.2 rm_M_findSets) 4 110 [(0, .ref (xa τ 0)), (1, .int (nI 0))] [] (WM G (sl τ 15 f0)) 0 0 := by
  have h16 := hw.r
  obtain ⟨f, a1, k1⟩ := iterL (α := Nat → Int64) (C := fun q : KP => Bd q.1 G q.2.1 "FirstTreesModel" c_M_findSets 4 none rm_M_findSets) (gR g + 1) (fun i f => AfterW g i (bW g f))
    (fun q i f => Lb q.1 G q.2.1 (Qe q.1 G q.2.1 q.2.2 rm_M_findSets) 4 110 [(0, .ref (xa τ 0)), (1, .int (nI i))] [] (WM G (sl τ 15 f)) 0 0) (by
    intro i f hi hA
    obtain ⟨f', b1, k2⟩ := iterL (α := Nat → Int64) (C := fun q : KP => Bd q.1 G q.2.1 "FirstTreesModel" c_M_findSets 4 none rm_M_findSets) (gR g) (fun x f' => PassW g (fun y t => bW g f y t = true) (fun y t => bW g f' y t = true) (fun y b j => y < x ∧ b < gA g y ∧ j < gL g (8 * y + b) ∧ gY g (8 * y + b) j < 0))
      (fun q x f' => Lb q.1 G q.2.1 (Qe q.1 G q.2.1 q.2.2 rm_M_findSets) 4 120 [(0, .ref (xa τ 0)), (1, .int (nI i)), (2, .int (nI x))] [] (WM G (sl τ 15 f')) 0 0) (by
      intro x f1 hx hP
      have h8 := hw.a x
      obtain ⟨f', c1, k3⟩ := iterL (α := Nat → Int64) (C := fun q : KP => Bd q.1 G q.2.1 "FirstTreesModel" c_M_findSets 4 none rm_M_findSets) (gA g x) (fun a f' => PassW g (fun y t => bW g f y t = true) (fun y t => bW g f' y t = true) (fun y b j => (y < x ∧ b < gA g y ∧ j < gL g (8 * y + b) ∧ gY g (8 * y + b) j < 0) ∨ (y = x ∧ b < a ∧ j < gL g (8 * x + b) ∧ gY g (8 * x + b) j < 0)))
        (fun q a f' => Lb q.1 G q.2.1 (Qe q.1 G q.2.1 q.2.2 rm_M_findSets) 4 130 [(0, .ref (xa τ 0)), (1, .int (nI i)), (2, .int (nI x)), (3, .int (nI a))] [] (WM G (sl τ 15 f')) 0 0) (by
        intro a f2 ha hP
        have hg' : GM g (sl τ 15 f2) := hg.of rfl rfl rfl rfl
        obtain ⟨f', d1, t⟩ := m_followAlong G hw hg h2 hN hF hx ha _ _ f2 hP
        refine ⟨f', d1.mono (fun y b j q => ?_), fun q X kk => ?_⟩
        · rcases q with q | ⟨q1, q2, q3, q4⟩
          · exact .inl (.inl q)
          · by_cases e : b = a
            · subst e; exact .inr ⟨q1, rfl, q3, q4⟩
            · exact .inl (.inr ⟨q1, by omega, q3, q4⟩)
        · refine sg_M_findSets_130_f130 X (sl τ 15 f2) _ _ _ x (sl τ 15 f').2 rfl (by omega) (by rw [hg'.2.1 x (by omega), n_le (by omega) (by omega)]; omega) t ?_
          rw [n_s]; exact kk) 0 f1 (Nat.zero_le _) (hP.mono (fun y b j q => q.elim id (fun q => absurd q.2.1 (Nat.not_lt_zero _))))
      have hg' : GM g (sl τ 15 f1) := hg.of rfl rfl rfl rfl
      have hg2 : GM g (sl τ 15 f') := hg.of rfl rfl rfl rfl
      refine ⟨f', c1.mono (fun y b j q => ?_), fun q X kk => ?_⟩
      · by_cases e : y = x
        · subst e; exact .inr ⟨rfl, q.2⟩
        · exact .inl ⟨by omega, q.2⟩
      · refine sg_M_findSets_120_f130 X (sl τ 15 f1) _ _ (by rw [hg'.1, n_le (by omega) (by omega)]; omega) (k3 q X ?_)
        refine sg_M_findSets_130_t120 X (sl τ 15 f') _ _ _ x rfl (by omega) (by rw [hg2.2.1 x (by omega), n_le (by omega) (by omega)]; omega) ?_
        rw [n_s]; exact kk) 0 f (Nat.zero_le _) ((PassW.start hA.1).mono (fun y b j q => absurd q.1 (Nat.not_lt_zero _)))
    have hg' : GM g (sl τ 15 f) := hg.of rfl rfl rfl rfl
    have hg2 : GM g (sl τ 15 f') := hg.of rfl rfl rfl rfl
    refine ⟨f', hA.next h2 b1 (fun x a k q1 q2 q3 q4 => ⟨q1, q2, q3, q4⟩), fun q X kk => ?_⟩
    refine sg_M_findSets_110_f120 X (sl τ 15 f) _ (by rw [hg'.1, n_lt (by omega) (by omega)]; omega) (k2 q X ?_)
    refine sg_M_findSets_120_t110 X (sl τ 15 f') _ _ (by rw [hg2.1, n_le (by omega) (by omega)]; omega) ?_
    rw [n_s]; exact kk) 0 f0 (Nat.zero_le _) h0
  refine ⟨f, fun x hx t => ?_, k1⟩
  have := AfterW.same a1.1 (a1.full h2 (by omega)) x t
  rw [bW_iff] at this
  exact ⟨fun q => this.mp ⟨hx, q⟩, fun q => (this.mpr q).2⟩
theorem sl_comm (τ : St) {k j : Nat} (h : k ≠ j) (f f' : Nat → Int64) : sl (sl τ k f) j f' = sl (sl τ j f') k f := by
  unfold sl
  congr 3
  funext i
  by_cases h1 : i = j
  · subst h1
    have h2 : ¬ i = k := fun q => h q.symm
    simp [h2]
  · simp [h1]
theorem m_findSets (G : GG) {g : Gr} {τ : St} (hw : WF g) (hg : GM g τ) (h0 : gR g ≠ 0) (h2 : NoF (F2 g) (gR g)) (h4 : NoF (F4 g) (gR g)) (hN : ∀ i, i < 16 → xi τ 4 i = pI (Nul g i)) :
    ∃ fF fW, ((∀ x, x < gR g → ∀ t, tb (fF x) t = true ↔ Fst g x t) ∧ (∀ x, x < gR g → ∀ t, tb (fW x) t = true ↔ Fol g x t)) ∧ Ct y_M_findSets c_M_findSets 4 none rm_M_findSets G [.ref (xa τ 0)] (WM G τ) (eqp none (WM G (sl (sl τ 14 fF) 15 fW))) := by
  have h16 := hw.r
  obtain ⟨⟨f1, f2⟩, ⟨a1, a2⟩, k1⟩ := iterL (α := (Nat → Int64) × (Nat → Int64)) (C := fun q : KP => Bd q.1 G q.2.1 "FirstTreesModel" c_M_findSets 4 none rm_M_findSets) 16 (fun i b => (∀ x, x < i → b.1 x = 0) ∧ ∀ x, x < i → b.2 x = if x = 0 then 4294967296 else 0)
    (fun q i b => Lb q.1 G q.2.1 (Qe q.1 G q.2.1 q.2.2 rm_M_findSets) 4 2 [(0, .ref (xa τ 0)), (1, .int (nI i))] [] (WM G (sl (sl τ 14 b.1) 15 b.2)) 0 0) (by
    intro i ⟨f1, f2⟩ hi ⟨a1, a2⟩
    have a1 : ∀ x, x < i → f1 x = 0 := a1
    have a2 : ∀ x, x < i → f2 x = if x = 0 then 4294967296 else 0 := a2
    have c5 : ¬ (16 : Int32) ≤ nI i := by rw [show (16 : Int32) = nI 16 from rfl, n_le (by omega) (by omega)]; omega
    have ew : ∀ v, wl (wl (sl (sl τ 14 f1) 15 f2) 14 i 0) 15 i v = sl (sl τ 14 (vp_updL f1 i 0)) 15 (vp_updL f2 i v) := by
      intro v
      rw [sl_comm τ (by decide : (14 : Nat) ≠ 15), wl_sl, sl_comm _ (by decide : (15 : Nat) ≠ 14), wl_sl]
    have l1 : ∀ x, x < i + 1 → vp_updL f1 i 0 x = 0 := by
      intro x hx
      by_cases e : x = i
      · rw [e, updL_at]
      · rw [updL_ne _ _ e]; exact a1 x (by omega)
    by_cases c : i = 0
    · subst c
      refine ⟨(vp_updL f1 0 0, vp_updL f2 0 4294967296), ⟨l1, fun x hx => ?_⟩, fun q X kk => ?_⟩
      · have : x = 0 := by omega
        subst this
        show vp_updL f2 0 4294967296 0 = _
        rw [updL_at]; rfl
      · refine sg_M_findSets_2_ff2 X (sl (sl τ 14 f1) 15 f2) _ 0 c5 rfl (by omega) rfl ?_
        rw [ew, n_s]; exact kk
    · refine ⟨(vp_updL f1 i 0, vp_updL f2 i 0), ⟨l1, fun x hx => ?_⟩, fun q X kk => ?_⟩
      · by_cases e : x = i
        · subst e; show vp_updL f2 x 0 x = _; rw [updL_at, if_neg c]
        · show vp_updL f2 i 0 x = _; rw [updL_ne _ _ e]; exact a2 x (by omega)
      · refine sg_M_findSets_2_ft2 X (sl (sl τ 14 f1) 15 f2) _ i c5 rfl hi (by rw [show (0 : Int32) = nI 0 from rfl, n_eq (by omega) (by omega)]; exact c) ?_
        rw [ew, n_s]; exact kk) 0 (xl τ 14, xl τ 15) (Nat.zero_le _) ⟨fun x hx => absurd hx (Nat.not_lt_zero _), fun x hx => absurd hx (Nat.not_lt_zero _)⟩
  have a1 : ∀ x, x < 16 → f1 x = 0 := a1
  have a2 : ∀ x, x < 16 → f2 x = if x = 0 then 4294967296 else 0 := a2
  obtain ⟨fF, hF, k2⟩ := m_fS_first G (τ := sl τ 15 f2) hw (hg.of rfl rfl rfl rfl) h2 h4 hN f1 a1
  have hA : AfterW g 0 (bW g f2) := by
    refine ⟨fun x t h => ?_, fun _ => ?_, fun t => .inr (Nat.zero_le _)⟩
    · rw [bW_iff] at h
      rw [a2 x (by omega)] at h
      by_cases e : x = 0
      · subst e
        have h2 := h.2
        rw [if_pos rfl, tb_32'] at h2
        subst h2
        exact (Fol_closed g).1 h.1
      · have h2 := h.2
        rw [if_neg e, tb_0] at h2; cases h2
    · rw [bW_iff, a2 0 (by omega), if_pos rfl, tb_32']; exact ⟨by omega, rfl⟩
  obtain ⟨fW, hW, k3⟩ := m_fS_follow G (τ := sl τ 14 fF) hw (hg.of rfl rfl rfl rfl) h2 hN (by rw [xl_sl]; exact hF) f2 hA
  refine ⟨fF, fW, ⟨hF, hW⟩, ?_⟩
  refine Ct.of (by decide +kernel) (Nat.le_of_ble_eq_true rfl) (fun K X => ?_)
  refine sg_M_findSets_0_2 X τ ?_
  have start := k1 (K, WM G τ, eqp none (WM G (sl (sl τ 14 fF) 15 fW))) X (sg_M_findSets_2_t40 X (sl (sl τ 14 f1) 15 f2) _ (by decide) (by
    rw [sl_comm τ (by decide : (14 : Nat) ≠ 15)]
    refine k2 (K, WM G τ, eqp none (WM G (sl (sl τ 14 fF) 15 fW))) X ?_
    have e1 : GM g (sl (sl τ 15 f2) 14 fF) := hg.of rfl rfl rfl rfl
    refine sg_M_findSets_40_t110 X (sl (sl τ 15 f2) 14 fF) _ (by rw [e1.1, n_le (by omega) (by omega)]; omega) ?_
    rw [sl_comm τ (by decide : (15 : Nat) ≠ 14)]
    refine k3 (K, WM G τ, eqp none (WM G (sl (sl τ 14 fF) 15 fW))) X ?_
    have e2 : GM g (sl (sl τ 14 fF) 15 fW) := hg.of rfl rfl rfl rfl
    exact sg_M_findSets_110_tr X (sl (sl τ 14 fF) 15 fW) _ (by rw [e2.1, n_lt (by omega) (by omega)]; omega) ⟨rfl, rfl⟩))
  have e0 : sl (sl τ 14 (xl τ 14)) 15 (xl τ 15) = τ := by rw [sl_id]; exact sl_id τ 15
  have start : Lb K G (WM G τ) (Qe K G (WM G τ) (eqp none (WM G (sl (sl τ 14 fF) 15 fW))) rm_M_findSets) 4 2 [(0, .ref (xa τ 0)), (1, .int (nI 0))] [] (WM G (sl (sl τ 14 (xl τ 14)) 15 (xl τ 15))) 0 0 := start
  rw [e0] at start
  exact start
