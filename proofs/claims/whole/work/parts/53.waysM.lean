/-! the reference's ways -/
abbrev pSM (k : Nat) : Prop := k = 12 ∨ k = 13
def okV (g : Gr) (T : Nat → Int) (n : Nat) (τ : St) (y q : Nat) : Prop := ∀ j, q ≤ j → j ≤ n → xl τ 11 (61 * (61 * y + q) + j) = nL (cp (Nw g T n y q j))
theorem okV.fm {g : Gr} {T : Nat → Int} {n : Nat} {P J : Nat → Prop} {σ σ' : St} {y q : Nat} (h : okV g T n σ y q) (hf : Fm P J σ σ') (hp : ¬ P 11) : okV g T n σ' y q := by
  unfold okV; rw [hf.el 11 (fun q => q.elim (by decide) hp)]; exact h
theorem m61b (a b c : Nat) : 61 * (61 * nI a + nI b) + nI c = nI (61 * (61 * a + b) + c) := by rw [m61', m61']
theorem m61c (a b : Nat) : 61 * (61 * nI a + nI b) = nI (61 * (61 * a + b)) := by
  rw [m61', show (61 : Int32) = nI 61 from rfl, n_mul]
theorem m_waysRule (G : GG) {g : Gr} {T : Nat → Int} {n : Nat} {τ : St} (hT : WT T n) (hI : IM T n τ) {x a p k y q : Nat} (x1 x2 x3 x4 x5 : Int32) (hy : y < 16) (hq : q ≤ n) (hoM : ∀ i, tb (xl τ 8 (61 * y + q)) i = true ↔ En g T n y q i) (hoV : okV g T n τ y q) (b : Nat) (hb : xl τ 12 q = nL (cp b)) (f : Nat → Nat) (hf : ∀ j, j ≤ 60 → xl τ 13 j = nL (cp (f j))) :
    ∃ s : Sq, ((∀ j, j ≤ 60 → xl (xa τ, s) 13 j = nL (cp (f j + b * Nw g T n y q j))) ∧ Fm (fun k => k = 13) noP τ (xa τ, s)) ∧ ∀ r, (fun q : KP => Bd q.1 G q.2.1 "FirstTreesModel" c_M_waysAlong 11 none rm_M_waysAlong) r →
      Lb r.1 G r.2.1 (Qe r.1 G r.2.1 r.2.2 rm_M_waysAlong) 11 85 [(0, .ref (xa τ 0)), (1, .int x1), (2, .int x2), (3, .int x3), (4, .int x4), (5, .int x5), (6, .int (nI (q + 1)))] [] (WM G (xa τ, s)) 0 0 →
      Lb r.1 G r.2.1 (Qe r.1 G r.2.1 r.2.2 rm_M_waysAlong) 11 206 [(0, .ref (xa τ 0)), (1, .int x1), (2, .int x2), (3, .int x3), (4, .int x4), (5, .int x5), (6, .int (nI q)), (7, .int (nI (61 * (61 * y + q)))), (8, .long (xl τ 8 (61 * y + q))), (10, .int (nI q))] [] (WM G τ) 0 0 := by
  have h60 := hT.1
  have hN0 : ∀ j, ¬ En g T n y q j → Nw g T n y q j = 0 := fun j w => Classical.byContradiction (fun w2 => w (Nw_en w2))
  refine iterE (α := Sq) (β := Sq) (C := fun q : KP => Bd q.1 G q.2.1 "FirstTreesModel" c_M_waysAlong 11 none rm_M_waysAlong) (n + 1) (fun i s => q ≤ i ∧ (∀ j, j ≤ 60 → xl (xa τ, s) 13 j = nL (cp (f j + if q ≤ j ∧ j < i then b * Nw g T n y q j else 0))) ∧ Fm (fun k => k = 13) noP τ (xa τ, s))
    (fun r i s => Lb r.1 G r.2.1 (Qe r.1 G r.2.1 r.2.2 rm_M_waysAlong) 11 206 [(0, .ref (xa τ 0)), (1, .int x1), (2, .int x2), (3, .int x3), (4, .int x4), (5, .int x5), (6, .int (nI q)), (7, .int (nI (61 * (61 * y + q)))), (8, .long (xl τ 8 (61 * y + q))), (10, .int (nI i))] [] (WM G (xa τ, s)) 0 0)
    (fun s : Sq => (∀ j, j ≤ 60 → xl (xa τ, s) 13 j = nL (cp (f j + b * Nw g T n y q j))) ∧ Fm (fun k => k = 13) noP τ (xa τ, s))
    (fun r s => Lb r.1 G r.2.1 (Qe r.1 G r.2.1 r.2.2 rm_M_waysAlong) 11 85 [(0, .ref (xa τ 0)), (1, .int x1), (2, .int x2), (3, .int x3), (4, .int x4), (5, .int x5), (6, .int (nI (q + 1)))] [] (WM G (xa τ, s)) 0 0) ?_ ?_ q τ.2 (by omega) ⟨Nat.le_refl _, fun j hj => by rw [if_neg (by omega), Nat.add_zero]; exact hf j hj, Fm.refl _ _ _⟩
  · intro i s hi ⟨a0, a1, a2⟩
    have hI' : IM T n (xa τ, s) := hI.fm a2 (fun q => q) (by decide)
    have c212 : ¬ xi (xa τ, s) 0 3 < nI i := by rw [hI'.1, n_lt (by omega) (by omega)]; omega
    have h63 : tb (xl τ 8 (61 * y + q)) 63 = false := by
      rw [← Bool.not_eq_true, hoM]; intro w; have := (En_bd w).2.2.1; omega
    by_cases c : ∃ m, i ≤ m ∧ En g T n y q m
    · have c221 : ¬ shrL (xl τ 8 (61 * y + q)) (nI i) = 0 := by
        unfold shrL
        rw [shr_z (by omega) h63]
        intro w
        obtain ⟨m, hm, hs⟩ := c
        have := w m hm
        rw [(hoM m).mpr hs] at this; cases this
      have hv : capL (xl (xa τ, s) 13 i + capL (xl (xa τ, s) 12 q * xl (xa τ, s) 11 (61 * (61 * y + q) + i))) = nL (cp (f i + b * Nw g T n y q i)) := by
        have c1 := cp_le (f i)
        have c2 := cp_le (b * Nw g T n y q i)
        have c3 := cp_bd b (Nw g T n y q i)
        rw [a1 i (by omega), if_neg (by omega), Nat.add_zero, a2.el 12 (by decide), a2.el 11 (by decide), hb, hoV i a0 (by omega), nL_mul, capL_cp (by omega), cp_mul, nL_add, capL_cp (by omega), cp_add, cp_addr]
      refine .inr ⟨(wl (xa τ, s) 13 i (capL (xl (xa τ, s) 13 i + capL (xl (xa τ, s) 12 q * xl (xa τ, s) 11 (61 * (61 * y + q) + i))))).2, ⟨by omega, fun j hj => ?_, a2.l rfl (by decide) _ _⟩, fun r X kk => ?_⟩
      · show vp_updL (xl (xa τ, s) 13) i _ j = _
        by_cases ej : j = i
        · subst ej; rw [updL_at, hv, if_pos (by omega)]
        · rw [updL_ne _ _ ej, a1 j hj]
          by_cases d : q ≤ j ∧ j < i
          · rw [if_pos d, if_pos (by omega)]
          · rw [if_neg d, if_neg (by omega)]
      · refine sg_M_waysAlong_206_ff206 X (xa τ, s) _ _ _ _ _ _ _ _ _ i q (61 * (61 * y + q) + i) c212 c221 rfl (by omega) rfl (by omega) (n_add _ _) (by omega) ?_
        rw [n_s]; exact kk
    · refine .inl ⟨s, ⟨fun j hj => ?_, a2⟩, fun r X kk => ?_⟩
      · rw [a1 j hj]
        by_cases d : q ≤ j ∧ j < i
        · rw [if_pos d]
        · rw [if_neg d, hN0 j (fun w => by have := (En_bd w).2.1; exact c ⟨j, by omega, w⟩), Nat.mul_zero]
      · refine sg_M_waysAlong_206_ft85 X (xa τ, s) _ _ _ _ _ _ _ _ _ c212 ?_ ?_
        · unfold shrL
          rw [shr_z (by omega) h63]
          intro m hm
          rw [← Bool.not_eq_true, hoM]
          exact fun w => c ⟨m, hm, w⟩
        · rw [n_s]; exact kk
  · intro s ⟨a0, a1, a2⟩
    have hI' : IM T n (xa τ, s) := hI.fm a2 (fun q => q) (by decide)
    refine ⟨s, ⟨fun j hj => ?_, a2⟩, fun r X kk => ?_⟩
    · rw [a1 j hj]
      by_cases d : q ≤ j ∧ j < n + 1
      · rw [if_pos d]
      · rw [if_neg d, hN0 j (fun w => by have := (En_bd w).2.1; have := (En_bd w).2.2.1; omega), Nat.mul_zero]
    · refine sg_M_waysAlong_206_t85 X (xa τ, s) _ _ _ _ _ _ _ _ _ (by rw [hI'.1, n_lt (by omega) (by omega)]; omega) ?_
      rw [n_s]; exact kk
theorem m_waysAlong (G : GG) {g : Gr} {T : Nat → Int} {n : Nat} {τ : St} (hw : WF g) (hg : GM g τ) (hT : WT T n) (hI : IM T n τ) {x a p : Nat} (hx : x < 16) (ha : a < 8) (hp : p ≤ n)
    (hok : ∀ k, k < gL g (8 * x + a) → ∀ m, Run g T n (8 * x + a) k p m → gY g (8 * x + a) k < 0 → okM g T n τ (rl (gY g (8 * x + a) k)) m ∧ okV g T n τ (rl (gY g (8 * x + a) k)) m) :
    ∃ s : Sq, ((∀ j, j ≤ 60 → xl (xa τ, s) 12 j = nL (cp (rN g (Nw g T n) T n (8 * x + a) (gL g (8 * x + a)) p j))) ∧ Fm pSM noP τ (xa τ, s)) ∧
      Ct y_M_waysAlong c_M_waysAlong 11 none rm_M_waysAlong G [.ref (xa τ 0), .int (nI x), .int (nI a), .int (nI p)] (WM G τ) (eqp none (WM G (xa τ, s))) := by
  have h60 := hT.1
  have hl := hw.l (8 * x + a)
  have hr : 8 * x + a < 128 := by omega
  have hrz : ∀ k m, ¬ Run g T n (8 * x + a) k p m → rN g (Nw g T n) T n (8 * x + a) k p m = 0 := fun k m w => Classical.byContradiction (fun w2 => w (rN_Run w2))
  obtain ⟨s0, ⟨a1, a2⟩, k1⟩ := iterL (α := Sq) (C := fun q : KP => Bd q.1 G q.2.1 "FirstTreesModel" c_M_waysAlong 11 none rm_M_waysAlong) 61 (fun i s => (∀ j, j < i → xl (xa τ, s) 12 j = nL (cp (if j = p then 1 else 0))) ∧ Fm pSM noP τ (xa τ, s))
    (fun q i s => Lb q.1 G q.2.1 (Qe q.1 G q.2.1 q.2.2 rm_M_waysAlong) 11 3 [(0, .ref (xa τ 0)), (1, .int (nI x)), (2, .int (nI a)), (3, .int (nI p)), (4, .int (nI i))] [] (WM G (xa τ, s)) 0 0) (by
    intro i s hi ⟨a1, a2⟩
    have c7 : ¬ (60 : Int32) < nI i := by rw [show (60 : Int32) = nI 60 from rfl, n_lt (by omega) (by omega)]; omega
    by_cases c : i = p
    · refine ⟨(wl (xa τ, s) 12 i 1).2, ⟨fun j hj => ?_, a2.l (by decide) (by decide) _ _⟩, fun q X kk => ?_⟩
      · show vp_updL (xl (xa τ, s) 12) i 1 j = _
        by_cases ej : j = i
        · rw [ej, updL_at, if_pos c]; rfl
        · rw [updL_ne _ _ ej]; exact a1 j (by omega)
      · refine sg_M_waysAlong_3_ff3 X (xa τ, s) _ _ _ _ i c7 (by rw [c]) rfl (by omega) ?_
        rw [n_s]; exact kk
    · refine ⟨(wl (xa τ, s) 12 i 0).2, ⟨fun j hj => ?_, a2.l (by decide) (by decide) _ _⟩, fun q X kk => ?_⟩
      · show vp_updL (xl (xa τ, s) 12) i 0 j = _
        by_cases ej : j = i
        · rw [ej, updL_at, if_neg c]; rfl
        · rw [updL_ne _ _ ej]; exact a1 j (by omega)
      · refine sg_M_waysAlong_3_ft3 X (xa τ, s) _ _ _ _ i c7 (by rw [n_eq (by omega) (by omega)]; exact c) rfl (by omega) ?_
        rw [n_s]; exact kk) 0 τ.2 (Nat.zero_le _) ⟨fun j hj => absurd hj (Nat.not_lt_zero _), Fm.refl _ _ _⟩
  obtain ⟨s, ⟨b1, b2⟩, k2⟩ := iterL (α := Sq) (C := fun q : KP => Bd q.1 G q.2.1 "FirstTreesModel" c_M_waysAlong 11 none rm_M_waysAlong) (gL g (8 * x + a)) (fun k s => (∀ j, j ≤ 60 → xl (xa τ, s) 12 j = nL (cp (rN g (Nw g T n) T n (8 * x + a) k p j))) ∧ Fm pSM noP τ (xa τ, s))
    (fun q k s => Lb q.1 G q.2.1 (Qe q.1 G q.2.1 q.2.2 rm_M_waysAlong) 11 37 [(0, .ref (xa τ 0)), (1, .int (nI x)), (2, .int (nI a)), (3, .int (nI p)), (4, .int (nI k))] [] (WM G (xa τ, s)) 0 0) (by
    intro k s hk ⟨b1, b2⟩
    have hg' : GM g (xa τ, s) := hg.fm b2 (fun q => q) (by decide)
    have hy := hw.y (8 * x + a) k
    have hrl := hw.rl (8 * x + a) k
    have ek : xi (xa τ, s) 3 (8 * (8 * x + a) + k) = sI (gY g (8 * x + a) k) := hg'.2.2.2 _ (by omega)
    -- more = 0
    obtain ⟨s1, ⟨c1, c2⟩, k3⟩ := iterL (α := Sq) (C := fun q : KP => Bd q.1 G q.2.1 "FirstTreesModel" c_M_waysAlong 11 none rm_M_waysAlong) 61 (fun i s1 => (∀ j, j < i → xl (xa τ, s1) 13 j = 0) ∧ Fm (fun k => k = 13) noP (xa τ, s) (xa τ, s1))
      (fun q i s1 => Lb q.1 G q.2.1 (Qe q.1 G q.2.1 q.2.2 rm_M_waysAlong) 11 61 [(0, .ref (xa τ 0)), (1, .int (nI x)), (2, .int (nI a)), (3, .int (nI p)), (4, .int (nI k)), (5, .int (sI (gY g (8 * x + a) k))), (6, .int (nI i))] [] (WM G (xa τ, s1)) 0 0) (by
      intro i s1 hi ⟨c1, c2⟩
      refine ⟨(wl (xa τ, s1) 13 i 0).2, ⟨fun j hj => ?_, c2.l rfl (by decide) _ _⟩, fun q X kk => ?_⟩
      · show vp_updL (xl (xa τ, s1) 13) i 0 j = 0
        by_cases ej : j = i
        · rw [ej, updL_at]
        · rw [updL_ne _ _ ej]; exact c1 j (by omega)
      · refine sg_M_waysAlong_61_f61 X (xa τ, s1) _ _ _ _ _ _ i (by rw [show (60 : Int32) = nI 60 from rfl, n_lt (by omega) (by omega)]; omega) rfl (by omega) ?_
        rw [n_s]; exact kk) 0 s (Nat.zero_le _) ⟨fun j hj => absurd hj (Nat.not_lt_zero _), Fm.refl _ _ _⟩
    have hterm : ∀ m j, m < p → rN g (Nw g T n) T n (8 * x + a) k p m * sN (Nw g T n) T n (gY g (8 * x + a) k) m j = 0 := fun m j hm => by
      rw [hrz k m (fun w => by have := (Run_bd hp w).1; omega), Nat.zero_mul]
    obtain ⟨s2, ⟨_, d1, d2⟩, k4⟩ := iterL (α := Sq) (C := fun q : KP => Bd q.1 G q.2.1 "FirstTreesModel" c_M_waysAlong 11 none rm_M_waysAlong) (n + 1) (fun q s2 => p ≤ q ∧ (∀ j, j ≤ 60 → xl (xa τ, s2) 13 j = nL (cp (sumN (fun m => rN g (Nw g T n) T n (8 * x + a) k p m * sN (Nw g T n) T n (gY g (8 * x + a) k) m j) q))) ∧ Fm (fun k => k = 13) noP (xa τ, s) (xa τ, s2))
      (fun q q' s2 => Lb q.1 G q.2.1 (Qe q.1 G q.2.1 q.2.2 rm_M_waysAlong) 11 85 [(0, .ref (xa τ 0)), (1, .int (nI x)), (2, .int (nI a)), (3, .int (nI p)), (4, .int (nI k)), (5, .int (sI (gY g (8 * x + a) k))), (6, .int (nI q'))] [] (WM G (xa τ, s2)) 0 0) (by
      intro q s2 hq ⟨hpq, d1, d2⟩
      have d2' : Fm pSM noP τ (xa τ, s2) := b2.trans (d2.mono (fun k hk => .inr hk) (fun k hk => hk))
      have hI' : IM T n (xa τ, s2) := hI.fm d2' (fun q => q) (by decide)
      have e12 : xl (xa τ, s2) 12 = xl (xa τ, s) 12 := d2.el 12 (by decide)
      have hb : xl (xa τ, s2) 12 q = nL (cp (rN g (Nw g T n) T n (8 * x + a) k p q)) := by rw [e12]; exact b1 q (by omega)
      have c91 : ¬ xi (xa τ, s2) 0 3 < nI q := by rw [hI'.1, n_lt (by omega) (by omega)]; omega
      have cb := cp_le (rN g (Nw g T n) T n (8 * x + a) k p q)
      by_cases c : rN g (Nw g T n) T n (8 * x + a) k p q = 0
      · refine ⟨s2, ⟨by omega, fun j hj => ?_, d2⟩, fun r X kk => ?_⟩
        · rw [d1 j hj]
          show _ = nL (cp (sumN _ q + rN g (Nw g T n) T n (8 * x + a) k p q * sN (Nw g T n) T n (gY g (8 * x + a) k) q j))
          rw [c, Nat.zero_mul, Nat.add_zero]
        · refine sg_M_waysAlong_85_ff85 X (xa τ, s2) _ _ _ _ _ _ q c91 rfl (by omega) (by rw [hb, c]; rfl) ?_
          rw [n_s]; exact kk
      · have c102 : ¬ xl (xa τ, s2) 12 q = 0 := by rw [hb, nL_0 (by omega), cp_eq0]; exact c
        have hrun := rN_Run c
        by_cases d : gY g (8 * x + a) k < 0
        · obtain ⟨o1, o2⟩ := hok k hk q hrun d
          have o1' := (o1.fm d2' (by decide)).1
          obtain ⟨s3, ⟨f1, f2⟩, kk3⟩ := m_waysRule G (g := g) (T := T) (τ := (xa τ, s2)) (x := x) (a := a) (p := p) (k := k) (y := rl (gY g (8 * x + a) k)) (q := q) hT hI' (nI x) (nI a) (nI p) (nI k) (sI (gY g (8 * x + a) k)) hrl (by omega) o1' (o2.fm d2' (by decide)) _ hb _ d1
          refine ⟨s3, ⟨by omega, fun j hj => ?_, d2.trans f2⟩, fun r X kk => ?_⟩
          · have := f1 j hj
            rw [show xl (xa τ, s3) 13 j = _ from this]
            show _ = nL (cp (sumN _ q + rN g (Nw g T n) T n (8 * x + a) k p q * sN (Nw g T n) T n (gY g (8 * x + a) k) q j))
            congr 3
            unfold sN; rw [if_neg (by omega)]
          · refine sg_M_waysAlong_85_ftt206 X (xa τ, s2) _ _ _ _ _ _ q (61 * rl (gY g (8 * x + a) k) + q) c91 rfl (by omega) c102 (by rw [isr_1 hy.1 hy.2 d]; decide) (by rw [rl_sI d, m61']) (by omega) ?_
            rw [rl_sI d, m61c]
            exact kk3 r X kk
        · have c114 : b2i (decide (sI (gY g (8 * x + a) k) < 0)) = 0 := isr_0 hy.1 hy.2 d
          have hTq := hT.2 q
          by_cases f : q < n ∧ T q = gY g (8 * x + a) k
          · have hv : capL (xl (xa τ, s2) 13 (q + 1) + xl (xa τ, s2) 12 q) = nL (cp (sumN (fun m => rN g (Nw g T n) T n (8 * x + a) k p m * sN (Nw g T n) T n (gY g (8 * x + a) k) m (q + 1)) q + rN g (Nw g T n) T n (8 * x + a) k p q)) := by
              have c1 := cp_le (sumN (fun m => rN g (Nw g T n) T n (8 * x + a) k p m * sN (Nw g T n) T n (gY g (8 * x + a) k) m (q + 1)) q)
              rw [d1 (q + 1) (by omega), hb, nL_add, capL_cp (by omega), cp_add, cp_addr]
            refine ⟨(wl (xa τ, s2) 13 (q + 1) (capL (xl (xa τ, s2) 13 (q + 1) + xl (xa τ, s2) 12 q))).2, ⟨by omega, fun j hj => ?_, d2.l rfl (by decide) _ _⟩, fun r X kk => ?_⟩
            · show vp_updL (xl (xa τ, s2) 13) (q + 1) _ j = nL (cp (sumN _ q + rN g (Nw g T n) T n (8 * x + a) k p q * sN (Nw g T n) T n (gY g (8 * x + a) k) q j))
              by_cases ej : j = q + 1
              · subst ej
                rw [updL_at, hv]
                unfold sN; rw [if_pos (by omega), if_pos ⟨f.1, f.2, rfl⟩, Nat.mul_one]
              · rw [updL_ne _ _ ej, d1 j hj]
                unfold sN; rw [if_pos (by omega : (0 : Int) ≤ gY g (8 * x + a) k), if_neg (fun w => ej w.2.2), Nat.mul_zero, Nat.add_zero]
            · refine sg_M_waysAlong_85_ftfff85 X (xa τ, s2) _ _ _ _ _ _ q (q + 1) c91 rfl (by omega) c102 c114 (by rw [hI'.1, n_le (by omega) (by omega)]; omega) (by omega) (by rw [hI'.2 q (by omega), f.2]) (n_s q) (by omega) ?_
              rw [n_s]; exact kk
          · have hs0 : ∀ j, sN (Nw g T n) T n (gY g (8 * x + a) k) q j = 0 := fun j => by
              unfold sN; rw [if_pos (by omega), if_neg (fun w => f ⟨w.1, w.2.1⟩)]
            have hnx : ∀ j, j ≤ 60 → xl (xa τ, s2) 13 j = nL (cp (sumN (fun m => rN g (Nw g T n) T n (8 * x + a) k p m * sN (Nw g T n) T n (gY g (8 * x + a) k) m j) (q + 1))) := fun j hj => by
              rw [d1 j hj]
              show _ = nL (cp (sumN _ q + rN g (Nw g T n) T n (8 * x + a) k p q * sN (Nw g T n) T n (gY g (8 * x + a) k) q j))
              rw [hs0, Nat.mul_zero, Nat.add_zero]
            by_cases e1 : n ≤ q
            · refine ⟨s2, ⟨by omega, hnx, d2⟩, fun r X kk => ?_⟩
              refine sg_M_waysAlong_85_ftft85 X (xa τ, s2) _ _ _ _ _ _ q c91 rfl (by omega) c102 c114 (by rw [hI'.1, n_le (by omega) (by omega)]; exact e1) ?_
              rw [n_s]; exact kk
            · refine ⟨s2, ⟨by omega, hnx, d2⟩, fun r X kk => ?_⟩
              refine sg_M_waysAlong_85_ftfft85 X (xa τ, s2) _ _ _ _ _ _ q c91 rfl (by omega) c102 c114 (by rw [hI'.1, n_le (by omega) (by omega)]; exact e1) (by omega) (by rw [hI'.2 q (by omega), sI_eq (by omega) (by omega) (by omega) (by omega)]; exact fun w => f ⟨by omega, w⟩) ?_
              rw [n_s]; exact kk) p s1 (by omega) ⟨Nat.le_refl _, fun j hj => by
        rw [c1 j (by omega), sumN_0 (fun m hm => hterm m j hm)]; rfl, c2⟩
    have d2' : Fm pSM noP τ (xa τ, s2) := b2.trans (d2.mono (fun k hk => .inr hk) (fun k hk => hk))
    have hI2 : IM T n (xa τ, s2) := hI.fm d2' (fun q => q) (by decide)
    obtain ⟨s3, ⟨e1, e2⟩, k5⟩ := iterL (α := Sq) (C := fun q : KP => Bd q.1 G q.2.1 "FirstTreesModel" c_M_waysAlong 11 none rm_M_waysAlong) 61 (fun i s3 => (∀ j, j < i → xl (xa τ, s3) 12 j = xl (xa τ, s2) 13 j) ∧ Fm (fun k => k = 12) noP (xa τ, s2) (xa τ, s3))
      (fun q i s3 => Lb q.1 G q.2.1 (Qe q.1 G q.2.1 q.2.2 rm_M_waysAlong) 11 279 [(0, .ref (xa τ 0)), (1, .int (nI x)), (2, .int (nI a)), (3, .int (nI p)), (4, .int (nI k)), (5, .int (sI (gY g (8 * x + a) k))), (6, .int (nI i))] [] (WM G (xa τ, s3)) 0 0) (by
      intro i s3 hi ⟨e1, e2⟩
      refine ⟨(wl (xa τ, s3) 12 i (xl (xa τ, s3) 13 i)).2, ⟨fun j hj => ?_, e2.l rfl (by decide) _ _⟩, fun q X kk => ?_⟩
      · show vp_updL (xl (xa τ, s3) 12) i _ j = _
        by_cases ej : j = i
        · rw [ej, updL_at, e2.el 13 (by decide)]
        · rw [updL_ne _ _ ej]; exact e1 j (by omega)
      · refine sg_M_waysAlong_279_f279 X (xa τ, s3) _ _ _ _ _ _ i (by rw [show (60 : Int32) = nI 60 from rfl, n_lt (by omega) (by omega)]; omega) rfl (by omega) ?_
        rw [n_s]; exact kk) 0 s2 (Nat.zero_le _) ⟨fun j hj => absurd hj (Nat.not_lt_zero _), Fm.refl _ _ _⟩
    refine ⟨s3, ⟨fun j hj => by rw [e1 j (by omega)]; exact d1 j hj, d2'.trans (e2.mono (fun k hk => .inl hk) (fun k hk => hk))⟩, fun q X kk => ?_⟩
    refine sg_M_waysAlong_37_f61 X (xa τ, s) _ _ _ _ (8 * x + a) (8 * (8 * x + a) + k) (m8 x a) hr (by rw [hg'.2.2.1 _ hr, n_le (by omega) (by omega)]; omega) (m64 x a k) (by omega) ?_
    rw [ek]
    refine k3 q X ?_
    refine sg_M_waysAlong_61_t85 X (xa τ, s1) _ _ _ _ _ _ (by decide) (k4 q X ?_)
    refine sg_M_waysAlong_85_t279 X (xa τ, s2) _ _ _ _ _ _ (by rw [hI2.1, n_lt (by omega) (by omega)]; omega) (k5 q X ?_)
    refine sg_M_waysAlong_279_t37 X (xa τ, s3) _ _ _ _ _ _ (by decide) ?_
    rw [n_s]; exact kk) 0 s0 (Nat.zero_le _) ⟨fun j hj => a1 j (by omega), a2⟩
  have hg' : GM g (xa τ, s) := hg.fm b2 (fun q => q) (by decide)
  refine ⟨s, ⟨b1, b2⟩, ?_⟩
  refine Ct.of (by decide +kernel) (Nat.le_of_ble_eq_true rfl) (fun K X => ?_)
  refine sg_M_waysAlong_0_3 X τ _ _ _ (k1 (K, _, _) X ?_)
  refine sg_M_waysAlong_3_t37 X (xa τ, s0) _ _ _ _ (by decide) (k2 (K, _, _) X ?_)
  exact sg_M_waysAlong_37_tr X (xa τ, s) _ _ _ _ (8 * x + a) (m8 x a) hr (by rw [hg'.2.2.1 _ hr, n_le (by omega) (by omega)]; omega) ⟨rfl, rfl⟩
abbrev pW (k : Nat) : Prop := k = 11 ∨ k = 12 ∨ k = 13
theorem m_findWays (G : GG) {g : Gr} {T : Nat → Int} {n : Nat} {τ : St} (hw : WF g) (hg : GM g τ) (h0 : gR g ≠ 0) (h2 : NoF (F2 g) (gR g)) (h4 : NoF (F4 g) (gR g)) (hT : WT T n) (hI : IM T n τ) (hu : ∃ u, u ≤ 60 ∧ xi τ 0 7 = nI u) {o : Nat → Nat} (ho : Topo g o) (hO : ∀ k, k < gR g → xi τ 6 k = nI (o k)) (hok : ∀ y, y < gR g → ∀ q, q ≤ n → okM g T n τ y q) :
    ∃ s : Sq, (xl (xa τ, s) 11 n = nL (cp (Nw g T n 0 0 n)) ∧ (∃ u, u ≤ 60 ∧ xi (xa τ, s) 0 7 = nI u) ∧ Fm pW j7 τ (xa τ, s)) ∧ Ct y_M_findWays c_M_findWays 7 none rm_M_findWays G [.ref (xa τ 0)] (WM G τ) (eqp none (WM G (xa τ, s))) := by
  have h16 := hw.r
  have h60 := hT.1
  obtain ⟨s, ⟨h1, hv, h3⟩, k1⟩ := iterD (α := Sq) (C := fun q : KP => Bd q.1 G q.2.1 "FirstTreesModel" c_M_findWays 7 none rm_M_findWays) (fun i s => Fm pW j7 τ (xa τ, s) ∧ (∃ u, u ≤ 60 ∧ xi (xa τ, s) 0 7 = nI u) ∧ ∀ y, y < gR g → ∀ q, i ≤ q → q ≤ n → okV g T n (xa τ, s) y q)
    (fun q i s => Lb q.1 G q.2.1 (Qe q.1 G q.2.1 q.2.2 rm_M_findWays) 7 5 [(0, .ref (xa τ 0)), (1, .int (dI i))] [] (WM G (xa τ, s)) 0 0) (n + 1) (by
    intro p s hp ⟨h1, hv, h3⟩
    obtain ⟨s', ⟨i1, iv, i3⟩, k2⟩ := iterL (α := Sq) (C := fun q : KP => Bd q.1 G q.2.1 "FirstTreesModel" c_M_findWays 7 none rm_M_findWays) (gR g) (fun j s => Fm pW j7 τ (xa τ, s) ∧ (∃ u, u ≤ 60 ∧ xi (xa τ, s) 0 7 = nI u) ∧ ∀ y q, Ok g n o p j y q → okV g T n (xa τ, s) y q)
      (fun q j s => Lb q.1 G q.2.1 (Qe q.1 G q.2.1 q.2.2 rm_M_findWays) 7 11 [(0, .ref (xa τ 0)), (1, .int (nI p)), (2, .int (nI j))] [] (WM G (xa τ, s)) 0 0) (by
      intro j s hj ⟨i1, iv, i3⟩
      have hg' : GM g (xa τ, s) := hg.fm i1 (by decide) (by decide)
      have hx := ho.1 j hj
      have h8 := hw.a (o j)
      have other : ∀ (s' : Sq), (∀ m, (∀ q, q ≤ 60 → m ≠ 61 * (61 * o j + p) + q) → xl (xa τ, s') 11 m = xl (xa τ, s) 11 m) → ∀ y q, q ≤ n → (y ≠ o j ∨ q ≠ p) → okV g T n (xa τ, s) y q → okV g T n (xa τ, s') y q := by
        intro s' he y q hq hne hv r r1 r2
        rw [he _ (fun q' hq' w => by rcases hne with hne | hne <;> omega)]
        exact hv r r1 r2
      obtain ⟨s0, ⟨a1, a2, a3, av⟩, k3⟩ := iterL (α := Sq) (C := fun q : KP => Bd q.1 G q.2.1 "FirstTreesModel" c_M_findWays 7 none rm_M_findWays) 61 (fun i s0 => (∀ q, q < i → xl (xa τ, s0) 11 (61 * (61 * o j + p) + q) = 0) ∧ (∀ m, (∀ q, q ≤ 60 → m ≠ 61 * (61 * o j + p) + q) → xl (xa τ, s0) 11 m = xl (xa τ, s) 11 m) ∧ Fm pW j7 τ (xa τ, s0) ∧ (∃ u, u ≤ 60 ∧ xi (xa τ, s0) 0 7 = nI u))
        (fun q i s0 => Lb q.1 G q.2.1 (Qe q.1 G q.2.1 q.2.2 rm_M_findWays) 7 40 [(0, .ref (xa τ 0)), (1, .int (nI p)), (2, .int (nI j)), (3, .int (nI (o j))), (4, .int (nI (61 * (61 * o j + p)))), (5, .int (nI i))] [] (WM G (xa τ, s0)) 0 0) (by
        intro i s0 hi ⟨a1, a2, a3, av⟩
        refine ⟨(wl (xa τ, s0) 11 (61 * (61 * o j + p) + i) 0).2, ⟨fun q hq => ?_, fun m hm => ?_, a3.l (by decide) (by decide) _ _, av⟩, fun q X kk => ?_⟩
        · show vp_updL (xl (xa τ, s0) 11) _ 0 _ = 0
          by_cases eq : q = i
          · rw [eq, updL_at]
          · rw [updL_ne _ _ (by omega)]; exact a1 q (by omega)
        · show vp_updL (xl (xa τ, s0) 11) _ 0 m = _
          rw [updL_ne _ _ (hm i (by omega))]; exact a2 m hm
        · refine sg_M_findWays_40_f40 X (xa τ, s0) _ _ _ _ _ (61 * (61 * o j + p) + i) (by rw [show (60 : Int32) = nI 60 from rfl, n_lt (by omega) (by omega)]; omega) (n_add _ _) (by omega) ?_
          rw [n_s]; exact kk) 0 s (Nat.zero_le _) ⟨fun q hq => absurd hq (Nat.not_lt_zero _), fun m _ => rfl, i1, iv⟩
      obtain ⟨s1, ⟨b1, b2, b3, bv⟩, k4⟩ := iterL (α := Sq) (C := fun q : KP => Bd q.1 G q.2.1 "FirstTreesModel" c_M_findWays 7 none rm_M_findWays) (gA g (o j)) (fun a s1 => (∀ q, p ≤ q → q ≤ n → xl (xa τ, s1) 11 (61 * (61 * o j + p) + q) = nL (cp (sumN (fun c => rN g (Nw g T n) T n (8 * o j + c) (gL g (8 * o j + c)) p q) a))) ∧ (∀ m, (∀ q, q ≤ 60 → m ≠ 61 * (61 * o j + p) + q) → xl (xa τ, s1) 11 m = xl (xa τ, s) 11 m) ∧ Fm pW j7 τ (xa τ, s1) ∧ (∃ u, u ≤ 60 ∧ xi (xa τ, s1) 0 7 = nI u))
        (fun q a s1 => Lb q.1 G q.2.1 (Qe q.1 G q.2.1 q.2.2 rm_M_findWays) 7 67 [(0, .ref (xa τ 0)), (1, .int (nI p)), (2, .int (nI j)), (3, .int (nI (o j))), (4, .int (nI (61 * (61 * o j + p)))), (5, .int (nI a))] [] (WM G (xa τ, s1)) 0 0) (by
        intro a s1 ha ⟨b1, b2, b3, ⟨u, hu1, hu2⟩⟩
        have hg1 : GM g (xa τ, s1) := hg.fm b3 (by decide) (by decide)
        have hI1 : IM T n (xa τ, s1) := hI.fm b3 (by decide) (by decide)
        have c75 : ¬ xi (xa τ, s1) 1 (o j) ≤ nI a := by rw [hg1.2.1 _ (by omega), n_le (by omega) (by omega)]; omega
        obtain ⟨s2, r, v, ⟨d1, d2, d3, d4, d5⟩, t⟩ := m_along G (τ := (xa τ, s1)) (x := o j) (a := a) (p := p) (u := u) hw hg1 hT hI1 (by omega) (by omega) (by omega) hu2 hu1
          (fun k hk m hr hs => ⟨rl_lt h2 hx ha hk hs, (hok _ (rl_lt h2 hx ha hk hs) m (Run_bd (by omega) hr).2.1).fm b3 (by decide)⟩)
        have d1 : Fm noP j7 (xa τ, s1) (xa τ, s2) := d1
        have e11 : xl (xa τ, s2) 11 = xl (xa τ, s1) 11 := d1.el 11 (by decide)
        have f2 : Fm pW j7 τ (xa τ, s2) := b3.trans (d1.mono (fun k hk => hk.elim) (fun k hk => hk))
        by_cases c : r = 0
        · have hz : ∀ q, rN g (Nw g T n) T n (8 * o j + a) (gL g (8 * o j + a)) p q = 0 := fun q => Classical.byContradiction (fun w => by
            have h1 := (d5 q).mpr (rN_Run w)
            rw [c, tb_0] at h1; cases h1)
          refine ⟨s2, ⟨fun q h1 h2 => ?_, fun m hm => by rw [e11]; exact b2 m hm, f2, ⟨v, d3, d2⟩⟩, fun q X kk => ?_⟩
          · rw [e11, b1 q h1 h2]
            show _ = nL (cp (sumN _ a + rN g (Nw g T n) T n (8 * o j + a) (gL g (8 * o j + a)) p q))
            rw [hz, Nat.add_zero]
          · refine sg_M_findWays_67_ft67 X (xa τ, s1) _ _ _ _ _ (o j) r s2 rfl (by omega) c75 t c ?_
            rw [n_s]; exact kk
        · have hg2 : GM g (xa τ, s2) := hg.fm f2 (by decide) (by decide)
          have hI2 : IM T n (xa τ, s2) := hI.fm f2 (by decide) (by decide)
          obtain ⟨s3, ⟨w1, w2⟩, t3⟩ := m_waysAlong G (g := g) (T := T) (τ := (xa τ, s2)) (x := o j) (a := a) (p := p) hw hg2 hT hI2 (by omega) (by omega) (by omega) (fun k hk m hr hs => by
            have hn := need_ok h2 ho hj rfl (by omega) ha hk hs hr
            refine ⟨(hok _ (rl_lt h2 hx ha hk hs) m hn.2.1).fm f2 (by decide), ?_⟩
            refine (other s2 (fun m hm => by rw [e11]; exact b2 m hm) _ m hn.2.1 ?_ (i3 _ _ hn))
            by_cases c : m = p
            · refine .inl (fun w => ?_)
              subst c
              have hl := Lf_of (Run_left (by omega) ha hk hs hr)
              rw [w] at hl
              exact h4 _ hx hl
            · exact .inr c)
          have w2 : Fm pSM noP (xa τ, s2) (xa τ, s3) := w2
          have f3 : Fm pW j7 τ (xa τ, s3) := f2.trans (w2.mono (fun k hk => .inr hk) (fun k hk => hk.elim))
          have e11' : xl (xa τ, s3) 11 = xl (xa τ, s1) 11 := by rw [w2.el 11 (by decide)]; exact e11
          obtain ⟨s4, ⟨_, x1, x2, x3, xv⟩, k5⟩ := iterL (α := Sq) (C := fun q : KP => Bd q.1 G q.2.1 "FirstTreesModel" c_M_findWays 7 none rm_M_findWays) (n + 1) (fun i s4 => p ≤ i ∧ (∀ q, p ≤ q → q ≤ n → xl (xa τ, s4) 11 (61 * (61 * o j + p) + q) = nL (cp (sumN (fun c => rN g (Nw g T n) T n (8 * o j + c) (gL g (8 * o j + c)) p q) a + if q < i then rN g (Nw g T n) T n (8 * o j + a) (gL g (8 * o j + a)) p q else 0))) ∧
              (∀ m, (∀ q, q ≤ 60 → m ≠ 61 * (61 * o j + p) + q) → xl (xa τ, s4) 11 m = xl (xa τ, s) 11 m) ∧ Fm (fun k => k = 11) noP (xa τ, s3) (xa τ, s4) ∧ True)
            (fun q i s4 => Lb q.1 G q.2.1 (Qe q.1 G q.2.1 q.2.2 rm_M_findWays) 7 104 [(0, .ref (xa τ 0)), (1, .int (nI p)), (2, .int (nI j)), (3, .int (nI (o j))), (4, .int (nI (61 * (61 * o j + p)))), (5, .int (nI a)), (6, .int (nI i))] [] (WM G (xa τ, s4)) 0 0) (by
            intro i s4 hi ⟨x0, x1, x2, x3, _⟩
            have f4 : Fm pW j7 τ (xa τ, s4) := f3.trans (x3.mono (fun k hk => .inl hk) (fun k hk => hk.elim))
            have hI4 : IM T n (xa τ, s4) := hI.fm f4 (by decide) (by decide)
            have hvv : capL (xl (xa τ, s4) 11 (61 * (61 * o j + p) + i) + xl (xa τ, s4) 12 i) = nL (cp (sumN (fun c => rN g (Nw g T n) T n (8 * o j + c) (gL g (8 * o j + c)) p i) a + rN g (Nw g T n) T n (8 * o j + a) (gL g (8 * o j + a)) p i)) := by
              have c1 := cp_le (sumN (fun c => rN g (Nw g T n) T n (8 * o j + c) (gL g (8 * o j + c)) p i) a)
              have c2 := cp_le (rN g (Nw g T n) T n (8 * o j + a) (gL g (8 * o j + a)) p i)
              have e12 : xl (xa τ, s4) 12 = xl (xa τ, s3) 12 := x3.el 12 (by decide)
              rw [x1 i x0 (by omega), if_neg (by omega), Nat.add_zero, e12, show xl (xa τ, s3) 12 i = _ from w1 i (by omega), nL_add, capL_cp (by omega), cp_add, cp_addr]
            refine ⟨(wl (xa τ, s4) 11 (61 * (61 * o j + p) + i) (capL (xl (xa τ, s4) 11 (61 * (61 * o j + p) + i) + xl (xa τ, s4) 12 i))).2, ⟨by omega, fun q h1 h2 => ?_, fun m hm => ?_, x3.l rfl (by decide) _ _, trivial⟩, fun q X kk => ?_⟩
            · show vp_updL (xl (xa τ, s4) 11) _ _ _ = _
              by_cases eq : q = i
              · subst eq; rw [updL_at, hvv, if_pos (by omega)]
              · rw [updL_ne _ _ (by omega), x1 q h1 h2]
                by_cases d : q < i
                · rw [if_pos d, if_pos (by omega)]
                · rw [if_neg d, if_neg (by omega)]
            · show vp_updL (xl (xa τ, s4) 11) _ _ m = _
              rw [updL_ne _ _ (hm i (by omega))]; exact x2 m hm
            · refine sg_M_findWays_104_f104 X (xa τ, s4) _ _ _ _ _ _ (61 * (61 * o j + p) + i) i (by rw [hI4.1, n_lt (by omega) (by omega)]; omega) (n_add _ _) (by omega) rfl (by omega) ?_
              rw [n_s]; exact kk) p s3 (by omega) ⟨Nat.le_refl _, fun q h1 h2 => by rw [if_neg (by omega), Nat.add_zero, e11']; exact b1 q h1 h2, fun m hm => by rw [e11']; exact b2 m hm, Fm.refl _ _ _, trivial⟩
          have f4 : Fm pW j7 τ (xa τ, s4) := f3.trans (x3.mono (fun k hk => .inl hk) (fun k hk => hk.elim))
          have hI4 : IM T n (xa τ, s4) := hI.fm f4 (by decide) (by decide)
          refine ⟨s4, ⟨fun q h1 h2 => by rw [x1 q h1 h2, if_pos (by omega)]; rfl, x2, f4, ⟨v, d3, ?_⟩⟩, fun q X kk => ?_⟩
          · rw [x3.2.1 7 (fun q => q), show xi (xa τ, s3) 0 7 = xi (xa τ, s2) 0 7 from w2.2.1 7 (fun q => q)]; exact d2
          · refine sg_M_findWays_67_ff104 X (xa τ, s1) _ _ _ _ _ (o j) r s2 s3 rfl (by omega) c75 t c t3 (k5 q X ?_)
            refine sg_M_findWays_104_t67 X (xa τ, s4) _ _ _ _ _ _ (by rw [hI4.1, n_lt (by omega) (by omega)]; omega) ?_
            rw [n_s]; exact kk) 0 s0 (Nat.zero_le _) ⟨fun q h1 h2 => by rw [a1 q (by omega)]; rfl, a2, a3, av⟩
      have hg1 : GM g (xa τ, s1) := hg.fm b3 (by decide) (by decide)
      refine ⟨s1, ⟨b3, bv, fun y q hq => ?_⟩, fun q X kk => ?_⟩
      · have hq2 := hq.2.1
        by_cases c : y = o j ∧ q = p
        · obtain ⟨rfl, rfl⟩ := c
          intro r r1 r2
          rw [Nw_eq hw h2 h4 hx (by omega)]; exact b1 r r1 r2
        · refine other s1 b2 y q hq2 (by
            by_cases c1 : y = o j
            · exact .inr (fun w => c ⟨c1, w⟩)
            · exact .inl c1) (i3 y q ⟨hq.1, hq.2.1, ?_⟩)
          rcases hq.2.2 with w | ⟨w1, i, w2, w3⟩
          · exact .inl w
          · refine .inr ⟨w1, i, ?_, w3⟩
            by_cases ei : i = j
            · subst ei; exact absurd ⟨w3.symm, w1⟩ c
            · omega
      · refine sg_M_findWays_11_f40 X (xa τ, s) _ _ j (by rw [hg'.1, n_le (by omega) (by omega)]; omega) rfl (by omega) ?_
        rw [i1.ei 6 (by decide), hO j hj, m61c]
        refine k3 q X ?_
        refine sg_M_findWays_40_t67 X (xa τ, s0) _ _ _ _ _ (by decide) (k4 q X ?_)
        refine sg_M_findWays_67_t11 X (xa τ, s1) _ _ _ _ _ (o j) rfl (by omega) (by rw [hg1.2.1 _ (by omega), n_le (by omega) (by omega)]; omega) ?_
        rw [n_s]; exact kk) 0 s (Nat.zero_le _) ⟨h1, hv, fun y q hq => h3 y hq.1 q (by
          rcases hq.2.2 with w | ⟨_, i, w, _⟩
          · exact w
          · exact absurd w (Nat.not_lt_zero _)) hq.2.1⟩
    have hg' : GM g (xa τ, s') := hg.fm i1 (by decide) (by decide)
    refine ⟨s', ⟨i1, iv, fun y hy q hq1 hq2 => i3 y q ⟨hy, hq2, ?_⟩⟩, fun q X kk => ?_⟩
    · by_cases c : q = p
      · obtain ⟨k, hk, e1⟩ := ho.2.1 y hy
        exact .inr ⟨c, k, hk, e1⟩
      · exact .inl (by omega)
    · show Lb _ _ _ _ _ _ [(0, .ref (xa τ 0)), (1, .int (dI (p + 1)))] _ _ _ _
      rw [dI_s]
      refine sg_M_findWays_5_f11 X (xa τ, s) _ (dI_nn (by omega)) (k2 q X ?_)
      refine sg_M_findWays_11_t5 X (xa τ, s') _ _ (by rw [hg'.1, n_le (by omega) (by omega)]; omega) ?_
      rw [dI_m]; exact kk) (n + 1) τ.2 (Nat.le_refl _) ⟨Fm.refl _ _ _, hu, fun y hy q h1 h2 => by omega⟩
  have hvv := h3 0 (by omega) 0 (Nat.zero_le _) (Nat.zero_le _) n (Nat.zero_le _) (Nat.le_refl _)
  rw [show 61 * (61 * 0 + 0) + n = n from by omega] at hvv
  refine ⟨s, ⟨hvv, hv, h1⟩, ?_⟩
  refine Ct.of (by decide +kernel) (Nat.le_of_ble_eq_true rfl) (fun K X => ?_)
  refine sg_M_findWays_0_5 X τ ?_
  rw [hI.1]
  have := k1 (K, _, eqp none (WM G (xa τ, s))) X (sg_M_findWays_5_tr X (xa τ, s) _ dI_0 ⟨rfl, rfl⟩)
  simp only [dI_s] at this
  exact this
