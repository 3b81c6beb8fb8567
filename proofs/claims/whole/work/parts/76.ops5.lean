section OO
variable {g : Gr} {T : Nat → Int} {n : Nat} {σ τ : St}
theorem o_isNothing (G : GG) (o : Nat) (f : Nat → Int64) (x : Int32) (h : Rel g T n σ τ) : OpH σ τ 4 (fun rH k5 f' s => CtH y_L_isNothing c_L_isNothing 4 (some .int) hs_L_isNothing rH G [.ref (xa σ 0), .int x, .ref o] (ow G o f :: WC G σ) (eqp (some (.int k5)) (ow G o f' :: WC G (xa σ, s)))) (fun v q => Ct y_M_isNothing c_M_isNothing 2 (some .boolean) rm_M_isNothing G [.ref (xa τ 0), .int x] (WM G τ) (eqp (some v) (WM G (xa τ, q)))) vB := by
  have h16 := h.w.r
  obtain ⟨kd, v, s1, h1, h2, h3, h4, hr⟩ := r_right G h
  obtain ⟨kd', v', q1, i1, i2, t', hl⟩ := r_look G h2 x
  obtain ⟨rfl, rfl⟩ := h1.uniq i1
  rcases hr with ⟨rfl, hr, t⟩ | ⟨hk, z⟩
  · rcases r_rule G h2.w h2.c x with ⟨r, hlt, rfl, tr⟩ | ⟨hn, tz⟩
    · rcases hl with ⟨q, _⟩ | ⟨_, q, _⟩ | ⟨_, hx, ez, l1, l2, l3⟩
      · exact absurd rfl q
      · exact absurd (rule_in h16 hlt) q
      · have e4 : xi (xa τ, q1) 4 r = pI (Nul g r) := l1 r (by omega)
        have eb : tb (Int32.toInt64 (xi (xa σ, s1) 5 3)) r = true ↔ Nul g r := by rw [tb_i2l (by omega)]; exact h4.1 r
        by_cases c : Nul g r
        · have c1 : ¬ hasB (Int32.toInt64 (xi (xa σ, s1) 5 3)) (nI r) = 0 := by rw [has1 (by omega), eb]; exact c
          exact ⟨_, 0, _, s1, _, q1, hn_L_isNothingf G σ o f (nI r) _ (ct_F_isNothing_ G σ (nI r) s1 t tr (nar_has _ _)) c1, ct_M_isNothing_ff G τ (nI r) q1 r t' ez rfl (by omega) (by rw [e4, pI_t c]; decide), ⟨by decide, by decide⟩, ⟨by decide, by decide⟩, ez, ⟨1, rfl, fun _ => .inr ⟨by decide, rfl⟩⟩, ⟨g, T, n, i2⟩, xn_fr h3⟩
        · have c1 : hasB (Int32.toInt64 (xi (xa σ, s1) 5 3)) (nI r) = 0 := by rw [has0' (by omega), eb]; exact c
          exact ⟨_, 0, _, s1, _, q1, hn_L_isNothingt G σ o f (nI r) _ (ct_F_isNothing_ G σ (nI r) s1 t tr (nar_has _ _)) c1, ct_M_isNothing_ft G τ (nI r) q1 r t' ez rfl (by omega) (by rw [e4, pI_f c]), ⟨by decide, by decide⟩, ⟨by decide, by decide⟩, ez, ⟨0, rfl, fun _ => .inl ⟨rfl, rfl⟩⟩, ⟨g, T, n, i2⟩, xn_fr h3⟩
    · rcases hl with ⟨q, _⟩ | ⟨_, q, ez⟩ | ⟨_, hx, _⟩
      · exact absurd rfl q
      · exact ⟨_, 2, _, s1, _, q1, hz_L_isNothing_2 G σ o f x (cz_F_isNothing_z6 G σ x s1 t tz), ct_M_isNothing_t G τ x q1 t' (by rw [ez]; decide), ⟨by decide, by decide⟩, ⟨by decide, by decide⟩, ez, ⟨_, rfl, fun q => absurd q (by decide)⟩, ⟨g, T, n, i2⟩, xn_fr h3⟩
      · exact absurd hx hn
  · rcases hl with ⟨q, ez⟩ | ⟨q, _⟩ | ⟨q, _⟩
    · exact ⟨_, 1, _, s1, _, q1, hz_L_isNothing_1 G σ o f x (cz_F_isNothing_z1 G σ x s1 z), ct_M_isNothing_t G τ x q1 t' (by rw [ez]; decide), ⟨by decide, by decide⟩, ⟨by decide, by decide⟩, ez, ⟨_, rfl, fun q => absurd q (by decide)⟩, ⟨g, T, n, i2⟩, xn_fr h3⟩
    · exact absurd q hk
    · exact absurd q hk
theorem o_first (G : GG) (o : Nat) (f : Nat → Int64) (x : Int32) (h : Rel g T n σ τ) : OpH σ τ 4 (fun rH k5 f' s => CtH y_L_first c_L_first 4 (some .int) hs_L_first rH G [.ref (xa σ 0), .int x, .ref o] (ow G o f :: WC G σ) (eqp (some (.int k5)) (ow G o f' :: WC G (xa σ, s)))) (fun v q => Ct y_M_first c_M_first 2 (some .long) rm_M_first G [.ref (xa τ 0), .int x] (WM G τ) (eqp (some v) (WM G (xa τ, q)))) vJ := by
  have h16 := h.w.r
  obtain ⟨kd, v, s1, h1, h2, h3, h4, hr⟩ := r_right G h
  obtain ⟨kd', v', q1, i1, i2, t', hl⟩ := r_look G h2 x
  obtain ⟨rfl, rfl⟩ := h1.uniq i1
  rcases hr with ⟨rfl, hr, t⟩ | ⟨hk, z⟩
  · rcases r_rule G h2.w h2.c x with ⟨r, hlt, rfl, tr⟩ | ⟨hn, tz⟩
    · rcases hl with ⟨q, _⟩ | ⟨_, q, _⟩ | ⟨_, hx, ez, l1, l2, l3⟩
      · exact absurd rfl q
      · exact absurd (rule_in h16 hlt) q
      · have ee : xl (xa σ, s1) 8 r = xl (xa τ, q1) 14 r := tb_ext (fun i _ => by rw [Bool.eq_iff_iff, hr.2.1 r hlt, l2 r hlt])
        refine ⟨_, 0, _, s1, _, q1, hn_L_first G σ o f (nI r) _ (ct_F_first_ G σ (nI r) s1 r t tr rfl (by omega)), ct_M_first_t G τ (nI r) q1 r t' (by rw [ez]; decide) rfl (by omega), ⟨by decide, by decide⟩, ⟨by decide, by decide⟩, ez, ⟨_, rfl, fun _ => ?_⟩, ⟨g, T, n, i2⟩, xn_fr h3⟩
        show xl (xa σ, s1) 8 r = xl (xa τ, q1) 14 r
        rw [ee]
    · rcases hl with ⟨q, _⟩ | ⟨_, q, ez⟩ | ⟨_, hx, _⟩
      · exact absurd rfl q
      · exact ⟨_, 2, _, s1, _, q1, hz_L_first_2 G σ o f x (cz_F_first_z6 G σ x s1 t tz), ct_M_first_f G τ x q1 t' (by rw [ez]; decide), ⟨by decide, by decide⟩, ⟨by decide, by decide⟩, ez, ⟨_, rfl, fun q => absurd q (by decide)⟩, ⟨g, T, n, i2⟩, xn_fr h3⟩
      · exact absurd hx hn
  · rcases hl with ⟨q, ez⟩ | ⟨q, _⟩ | ⟨q, _⟩
    · exact ⟨_, 1, _, s1, _, q1, hz_L_first_1 G σ o f x (cz_F_first_z1 G σ x s1 z), ct_M_first_f G τ x q1 t' (by rw [ez]; decide), ⟨by decide, by decide⟩, ⟨by decide, by decide⟩, ez, ⟨_, rfl, fun q => absurd q (by decide)⟩, ⟨g, T, n, i2⟩, xn_fr h3⟩
    · exact absurd q hk
    · exact absurd q hk
theorem o_following (G : GG) (o : Nat) (f : Nat → Int64) (x : Int32) (h : Rel g T n σ τ) : OpH σ τ 4 (fun rH k5 f' s => CtH y_L_following c_L_following 4 (some .int) hs_L_following rH G [.ref (xa σ 0), .int x, .ref o] (ow G o f :: WC G σ) (eqp (some (.int k5)) (ow G o f' :: WC G (xa σ, s)))) (fun v q => Ct y_M_following c_M_following 2 (some .long) rm_M_following G [.ref (xa τ 0), .int x] (WM G τ) (eqp (some v) (WM G (xa τ, q)))) vJ := by
  have h16 := h.w.r
  obtain ⟨kd, v, s1, h1, h2, h3, h4, hr⟩ := r_right G h
  obtain ⟨kd', v', q1, i1, i2, t', hl⟩ := r_look G h2 x
  obtain ⟨rfl, rfl⟩ := h1.uniq i1
  rcases hr with ⟨rfl, hr, t⟩ | ⟨hk, z⟩
  · rcases r_rule G h2.w h2.c x with ⟨r, hlt, rfl, tr⟩ | ⟨hn, tz⟩
    · rcases hl with ⟨q, _⟩ | ⟨_, q, _⟩ | ⟨_, hx, ez, l1, l2, l3⟩
      · exact absurd rfl q
      · exact absurd (rule_in h16 hlt) q
      · have ee : xl (xa σ, s1) 9 r = xl (xa τ, q1) 15 r := tb_ext (fun i _ => by rw [Bool.eq_iff_iff, hr.2.2 r hlt, l3 r hlt])
        refine ⟨_, 0, _, s1, _, q1, hn_L_following G σ o f (nI r) _ (ct_F_following_ G σ (nI r) s1 r t tr rfl (by omega)), ct_M_following_t G τ (nI r) q1 r t' (by rw [ez]; decide) rfl (by omega), ⟨by decide, by decide⟩, ⟨by decide, by decide⟩, ez, ⟨_, rfl, fun _ => ?_⟩, ⟨g, T, n, i2⟩, xn_fr h3⟩
        show xl (xa σ, s1) 9 r = xl (xa τ, q1) 15 r
        rw [ee]
    · rcases hl with ⟨q, _⟩ | ⟨_, q, ez⟩ | ⟨_, hx, _⟩
      · exact absurd rfl q
      · exact ⟨_, 2, _, s1, _, q1, hz_L_following_2 G σ o f x (cz_F_following_z6 G σ x s1 t tz), ct_M_following_f G τ x q1 t' (by rw [ez]; decide), ⟨by decide, by decide⟩, ⟨by decide, by decide⟩, ez, ⟨_, rfl, fun q => absurd q (by decide)⟩, ⟨g, T, n, i2⟩, xn_fr h3⟩
      · exact absurd hx hn
  · rcases hl with ⟨q, ez⟩ | ⟨q, _⟩ | ⟨q, _⟩
    · exact ⟨_, 1, _, s1, _, q1, hz_L_following_1 G σ o f x (cz_F_following_z1 G σ x s1 z), ct_M_following_f G τ x q1 t' (by rw [ez]; decide), ⟨by decide, by decide⟩, ⟨by decide, by decide⟩, ez, ⟨_, rfl, fun q => absurd q (by decide)⟩, ⟨g, T, n, i2⟩, xn_fr h3⟩
    · exact absurd q hk
    · exact absurd q hk
theorem m_lets52 (G : GG) (hw : WF g) (hg : GM g τ) (h2 : NoF (F2 g) (gR g)) (hN : ∀ i, i < 16 → xi τ 4 i = pI (Nul g i)) (hF : ∀ x, x < gR g → ∀ t, tb (xl τ 14 x) t = true ↔ Fst g x t) (hW : ∀ x, x < gR g → ∀ t, tb (xl τ 15 x) t = true ↔ Fol g x t) {x t : Nat} (hx : x < gR g) (ht : t < 33) :
    ∃ v, (∀ i, tc v i = true ↔ i < gA g x ∧ (rowFst g (Fst g) (8 * x + i) 0 t ∨ (rowN g (Nul g) (8 * x + i) 0 ∧ Fol g x t))) ∧
      ∀ q, (fun q : KP => Bd q.1 G q.2.1 "FirstTreesModel" c_M_lets 6 (some .int) rm_M_lets) q → q.2.2 (some (.int v)) (WM G τ) → Lb q.1 G q.2.1 (Qe q.1 G q.2.1 q.2.2 rm_M_lets) 6 52 [(0, .ref (xa τ 0)), (1, .int (nI x)), (2, .int (nI t)), (3, .int 0), (4, .int 0)] [] (WM G τ) 0 0 := by
  have h16 := hw.r
  have h8 := hw.a x
  have ea : xi τ 1 x = nI (gA g x) := hg.2.1 x (by omega)
  obtain ⟨v, a1, k1⟩ := iterL (α := Int32) (C := fun q : KP => Bd q.1 G q.2.1 "FirstTreesModel" c_M_lets 6 (some .int) rm_M_lets) (gA g x) (fun a v => ∀ i, tc v i = true ↔ i < a ∧ (rowFst g (Fst g) (8 * x + i) 0 t ∨ (rowN g (Nul g) (8 * x + i) 0 ∧ Fol g x t)))
    (fun q a v => Lb q.1 G q.2.1 (Qe q.1 G q.2.1 q.2.2 rm_M_lets) 6 52 [(0, .ref (xa τ 0)), (1, .int (nI x)), (2, .int (nI t)), (3, .int v), (4, .int (nI a))] [] (WM G τ) 0 0) (by
    intro a v ha hv
    have c60 : ¬ xi τ 1 x ≤ nI a := by rw [ea, n_le (by omega) (by omega)]; omega
    obtain ⟨r, b1, t68⟩ := m_firstOf G hw hg hN (x := x) (a := a) (f := 0) (by omega) (by omega)
    have b1 : ∀ t, tb r t = true ↔ rowFst g (Fst g) (8 * x + a) 0 t := fun t => (b1 t).trans (rowFst_congr (fun j _ q2 q3 _ => hF _ (rl_lt h2 hx ha q2 q3) t))
    have t85 := m_rowN G hw hg (r := x) (a := a) (f := 0) (by omega) (by omega)
    have b2 : rowN g (fun y => bM τ y = true) (8 * x + a) 0 ↔ rowN g (Nul g) (8 * x + a) 0 := rowN_congr (fun y => bM_iff hw hN y)
    have more : ∀ {P : Prop}, (P ↔ (rowFst g (Fst g) (8 * x + a) 0 t ∨ (rowN g (Nul g) (8 * x + a) 0 ∧ Fol g x t))) → P → ∀ i, tc (v ||| (1 <<< (nI a &&& 31))) i = true ↔ i < a + 1 ∧ (rowFst g (Fst g) (8 * x + i) 0 t ∨ (rowN g (Nul g) (8 * x + i) 0 ∧ Fol g x t)) := by
      intro P hP p i
      rw [tc_or, Bool.or_eq_true, tc_sh1 (by omega), hv, decide_eq_true_eq]
      constructor
      · rintro (⟨q1, q2⟩ | rfl)
        · exact ⟨by omega, q2⟩
        · exact ⟨by omega, hP.mp p⟩
      · rintro ⟨q1, q2⟩
        by_cases c : i = a
        · exact .inr c
        · exact .inl ⟨by omega, q2⟩
    have less : ¬ (rowFst g (Fst g) (8 * x + a) 0 t ∨ (rowN g (Nul g) (8 * x + a) 0 ∧ Fol g x t)) → ∀ i, tc v i = true ↔ i < a + 1 ∧ (rowFst g (Fst g) (8 * x + i) 0 t ∨ (rowN g (Nul g) (8 * x + i) 0 ∧ Fol g x t)) := by
      intro p i
      rw [hv]
      constructor
      · rintro ⟨q1, q2⟩; exact ⟨by omega, q2⟩
      · rintro ⟨q1, q2⟩
        by_cases c : i = a
        · exact absurd (c ▸ q2) p
        · exact ⟨by omega, q2⟩
    by_cases c1 : rowFst g (Fst g) (8 * x + a) 0 t
    · refine ⟨_, more (P := True) ⟨fun _ => .inl c1, fun _ => trivial⟩ trivial, fun q X k => ?_⟩
      refine sg_M_lets_52_ft52 X τ (nI x) (nI t) v (nI a) x r rfl (by omega) c60 t68 (by rw [shr1 (by omega)]; exact (b1 t).mpr c1) ?_
      rw [n_s]; exact k
    · have c76 : ¬ (shrL r (nI t)) &&& 1 = 1 := by rw [shr1 (by omega)]; exact fun q => c1 ((b1 t).mp q)
      by_cases c2 : rowN g (Nul g) (8 * x + a) 0
      · have c88 : ¬ pI (rowN g (fun y => bM τ y = true) (8 * x + a) 0) = 0 := by rw [pI_t (b2.mpr c2)]; decide
        by_cases c3 : Fol g x t
        · refine ⟨_, more (P := True) ⟨fun _ => .inr ⟨c2, c3⟩, fun _ => trivial⟩ trivial, fun q X k => ?_⟩
          refine sg_M_lets_52_ffff52 X τ (nI x) (nI t) v (nI a) x r _ rfl (by omega) c60 t68 c76 t85 c88 (by rw [shr1 (by omega)]; exact (hW x hx t).mpr c3) ?_
          rw [n_s]; exact k
        · refine ⟨v, less (fun q => q.elim c1 (fun q => c3 q.2)), fun q X k => ?_⟩
          refine sg_M_lets_52_ffft52 X τ (nI x) (nI t) v (nI a) x r _ rfl (by omega) c60 t68 c76 t85 c88 (by rw [shr1 (by omega)]; exact fun q => c3 ((hW x hx t).mp q)) ?_
          rw [n_s]; exact k
      · refine ⟨v, less (fun q => q.elim c1 (fun q => c2 q.1)), fun q X k => ?_⟩
        refine sg_M_lets_52_fft52 X τ (nI x) (nI t) v (nI a) x r _ rfl (by omega) c60 t68 c76 t85 (by rw [pI_f (fun q => c2 (b2.mp q))]) ?_
        rw [n_s]; exact k) 0 0 (by omega) (fun i => by rw [tc_0]; exact ⟨fun q => (by cases q), fun q => absurd q.1 (by omega)⟩)
  refine ⟨v, a1, fun q X hp => ?_⟩
  refine k1 q X ?_
  exact sg_M_lets_52_tr X τ (nI x) (nI t) v (nI (gA g x)) x rfl (by omega) (by rw [ea]; exact Int32.le_refl _) hp
theorem o_lets (G : GG) (o : Nat) (f : Nat → Int64) (x y : Int32) (h : Rel g T n σ τ) : OpH σ τ 5 (fun rH k5 f' s => CtH y_L_lets c_L_lets 5 (some .int) hs_L_lets rH G [.ref (xa σ 0), .int x, .int y, .ref o] (ow G o f :: WC G σ) (eqp (some (.int k5)) (ow G o f' :: WC G (xa σ, s)))) (fun v q => Ct y_M_lets c_M_lets 6 (some .int) rm_M_lets G [.ref (xa τ 0), .int x, .int y] (WM G τ) (eqp (some v) (WM G (xa τ, q)))) vI := by
  have h16 := h.w.r
  obtain ⟨kd, v, s1, h1, h2, h3, h4, hr⟩ := r_right G h
  obtain ⟨kd', v', q1, i1, i2, t', hl⟩ := r_look G h2 x
  obtain ⟨rfl, rfl⟩ := h1.uniq i1
  have thr : ∀ k : Int32, ¬ k ≤ 0 → xi (xa τ, q1) 0 0 = k → Ct y_M_lets c_M_lets 6 (some .int) rm_M_lets G [.ref (xa τ 0), .int x, .int y] (WM G τ) (eqp (some (.int 0)) (WM G (wi (xa τ, q1) 0 0 (xi (xa τ, q1) 0 0)))) := by
    intro k hk e
    refine Ct.of (by decide +kernel) (Nat.le_of_ble_eq_true rfl) (fun K X => ?_)
    exact sg_M_lets_0_ffr X τ x y q1 t' (by rw [e]; exact hk) (by rw [e]; exact hk) ⟨rfl, rfl⟩
  rcases hr with ⟨rfl, hr, t⟩ | ⟨hk, z⟩
  · obtain ⟨r0, r2, r3, r4⟩ := h1.right
    rcases r_rule G h2.w h2.c x with ⟨r, hlt, rfl, tr⟩ | ⟨hn, tz⟩
    · rcases hl with ⟨q, _⟩ | ⟨_, q, _⟩ | ⟨_, hx, ez, l1, l2, l3⟩
      · exact absurd rfl q
      · exact absurd (rule_in h16 hlt) q
      · have c10 : xi (xa τ, q1) 0 0 ≤ 0 := by rw [ez]; decide
        by_cases c1 : y < 0
        · refine ⟨_, 3, _, s1, .int 0, (wi (xa τ, q1) 0 0 3).2, hz_L_lets_3 G σ o f (nI r) y (cz_F_lets_t G σ (nI r) y s1 t tr c1), ?_, ⟨by decide, by decide⟩, ⟨by decide, by decide⟩, rfl, ⟨_, rfl, fun q => absurd q (by decide)⟩, ⟨g, T, n, i2.z 3⟩, xn_fr h3⟩
          refine Ct.of (by decide +kernel) (Nat.le_of_ble_eq_true rfl) (fun K X => ?_)
          exact sg_M_lets_0_ttr X τ (nI r) y q1 t' c10 c1 ⟨rfl, rfl⟩
        · by_cases c2 : y ≤ 32
          · obtain ⟨m, hm, rfl⟩ := nat_of (Int32.not_lt.mp c1)
            have hm32 : m ≤ 32 := by rw [show (32 : Int32) = nI 32 from rfl, n_le hm (by omega)] at c2; exact c2
            obtain ⟨u, a1, tl⟩ := k_letIn G h2.w h2.c r2 h4.1 hr.2.1 hr.2.2 hlt (t := m) (by omega)
            obtain ⟨u', a2, km⟩ := m_lets52 G (τ := wi (xa τ, q1) 0 0 0) i2.w (i2.z 0).m r2 l1 l2 l3 hlt (t := m) (by omega)
            have eu : u = u' := tc_ext (fun i _ => by rw [Bool.eq_iff_iff, a1, a2])
            subst eu
            refine ⟨_, 0, _, s1, .int u, (wi (xa τ, q1) 0 0 0).2, hn_L_lets G σ o f (nI r) (nI m) u (ct_F_lets_ft G σ (nI r) (nI m) s1 _ t tr c1 c2 tl), ?_, ⟨by decide, by decide⟩, ⟨by decide, by decide⟩, rfl, ⟨u, rfl, fun _ => rfl⟩, ⟨g, T, n, i2.z 0⟩, xn_fr h3⟩
            refine Ct.of (by decide +kernel) (Nat.le_of_ble_eq_true rfl) (fun K X => ?_)
            refine sg_M_lets_0_tft52 X τ (nI r) (nI m) q1 t' c10 c1 c2 ?_
            exact km (K, _, eqp (some (.int u)) (WM G (wi (xa τ, q1) 0 0 0))) X ⟨rfl, rfl⟩
          · refine ⟨_, 3, _, s1, .int 0, (wi (xa τ, q1) 0 0 3).2, hz_L_lets_3 G σ o f (nI r) y (cz_F_lets_ff G σ (nI r) y s1 t tr c1 c2), ?_, ⟨by decide, by decide⟩, ⟨by decide, by decide⟩, rfl, ⟨_, rfl, fun q => absurd q (by decide)⟩, ⟨g, T, n, i2.z 3⟩, xn_fr h3⟩
            refine Ct.of (by decide +kernel) (Nat.le_of_ble_eq_true rfl) (fun K X => ?_)
            exact sg_M_lets_0_tffr X τ (nI r) y q1 t' c10 c1 c2 ⟨rfl, rfl⟩
    · rcases hl with ⟨q, _⟩ | ⟨_, q, ez⟩ | ⟨_, hx, _⟩
      · exact absurd rfl q
      · exact ⟨_, 2, _, s1, .int 0, (wi (xa τ, q1) 0 0 (xi (xa τ, q1) 0 0)).2, hz_L_lets_2 G σ o f x y (cz_F_lets_z6 G σ x y s1 t tz), thr 2 (by decide) ez, ⟨by decide, by decide⟩, ⟨by decide, by decide⟩, ez, ⟨_, rfl, fun q => absurd q (by decide)⟩, ⟨g, T, n, i2.z _⟩, xn_fr h3⟩
      · exact absurd hx hn
  · rcases hl with ⟨q, ez⟩ | ⟨q, _⟩ | ⟨q, _⟩
    · exact ⟨_, 1, _, s1, .int 0, (wi (xa τ, q1) 0 0 (xi (xa τ, q1) 0 0)).2, hz_L_lets_1 G σ o f x y (cz_F_lets_z1 G σ x y s1 z), thr 1 (by decide) ez, ⟨by decide, by decide⟩, ⟨by decide, by decide⟩, ez, ⟨_, rfl, fun q => absurd q (by decide)⟩, ⟨g, T, n, i2.z _⟩, xn_fr h3⟩
    · exact absurd q hk
    · exact absurd q hk
end OO
