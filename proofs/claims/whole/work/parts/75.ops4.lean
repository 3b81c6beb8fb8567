section OO
variable {g : Gr} {T : Nat → Int} {n : Nat} {σ τ : St}
theorem nar_has (x : Int64) (y : Int32) : narrow .boolean (.int (hasB x y)) = .int (hasB x y) := nar_b2i _
theorem r_chart (G : GG) {e : Nat} (h : Rel g T n σ τ) (h2 : NoF (F2 g) (gR g)) (hs : StR g σ) (so : StOk g σ) (he : e ≤ 60) :
    ∃ s : Sq, okC g T e (xa σ, s) ∧ Rel g T n (xa σ, s) τ ∧ Fr (inR 12 18) σ (xa σ, s) ∧ Ct y_C_fill c_C_fill 4 none rm_C_fill G [.ref (xa σ 12), .int (nI e)] (WC G σ) (eqp none (WC G (xa σ, s))) := by
  obtain ⟨⟨o, h3, h4⟩, _, _⟩ := hs
  obtain ⟨s, ⟨h5, h6⟩, t⟩ := k_fill G (e := e) h.w h.c h2 h.t he h.ic.2 h3 h4
  exact ⟨s, h5, h.fc h6 (by decide) (fun _ => so.of (h6.ei 5 (by decide)) (h6.ei 7 (by decide)) (h6.el 8 (by decide)) (h6.el 9 (by decide))), h6, t⟩
theorem r_places (G : GG) (h : Rel g T n σ τ) (h2 : NoF (F2 g) (gR g)) (h4 : NoF (F4 g) (gR g)) (hL : ∀ y i, y < gR g → i < gR g → (¬ xi τ 5 (16 * y + i) = 0 ↔ Lf g y i)) :
    ∃ (s : Sq) (o : Nat → Nat), Topo g o ∧ (∀ k, k < gR g → xi (xa τ, s) 6 k = nI (o k)) ∧ (∀ y, y < gR g → ∀ q, q ≤ n → okM g T n (xa τ, s) y q) ∧ Rel g T n σ (xa τ, s) ∧ Fm pFP j7 τ (xa τ, s) ∧ Ct y_M_findPlaces c_M_findPlaces 8 none rm_M_findPlaces G [.ref (xa τ 0)] (WM G τ) (eqp none (WM G (xa τ, s))) := by
  obtain ⟨s, o, ⟨a1, a2, a3, a4, a5⟩, t⟩ := m_findPlaces G h.w h.m h2 h4 hL h.t h.im h.u
  exact ⟨s, o, a1, a2, a3, h.fm a5 (by decide) (by decide) a4, a5, t⟩
theorem o_reach (G : GG) (o : Nat) (f : Nat → Int64) (h : Rel g T n σ τ) : OpH σ τ 3 (fun rH k5 f' s => CtH y_L_reach c_L_reach 3 (some .int) hs_L_reach rH G [.ref (xa σ 0), .ref o] (ow G o f :: WC G σ) (eqp (some (.int k5)) (ow G o f' :: WC G (xa σ, s)))) (fun v q => Ct y_M_reach c_M_reach 1 (some .int) rm_M_reach G [.ref (xa τ 0)] (WM G τ) (eqp (some v) (WM G (xa τ, q)))) vI := by
  have h60 := h.t.1
  obtain ⟨kd, v, s1, h1, h2, h3, h4, hr⟩ := r_right G h
  obtain ⟨kd', v', q1, i1, i2, i3, i4, i5, t'⟩ := r_fault G h2
  obtain ⟨rfl, rfl⟩ := h1.uniq i1
  have hb := h1.bd
  rcases hr with ⟨rfl, hr, t⟩ | ⟨hk, z⟩
  · obtain ⟨r0, r2, r3, r4⟩ := h1.right
    obtain ⟨s2, c1, c2, c3, tf⟩ := r_chart G (e := n) i2 r2 hr h4 h60
    obtain ⟨q2, _, _, _, m1, m2, m3, tp⟩ := r_places G (c2.z 0) r2 r4 (i5 rfl).2
    have k0 := c1.2 0 (by omega) 0 (by omega)
    have k1 : ∀ i, tb (xl (xa σ, s2) 16 0) i = true ↔ En g T n 0 0 i := k0.1.1
    have l0 := m1 0 (by omega) 0 (by omega)
    have l1 : ∀ i, tb (xl (xa τ, q2) 8 0) i = true ↔ En g T n 0 0 i := l0.1
    have e1 : xi (xa σ, s2) 12 0 = nI n := c1.1
    have e2 : xi (xa τ, q2) 0 3 = nI n := m2.im.1
    have e3 : xi (xa σ, s1) 10 0 = nI n := h2.ic.1
    have ex : xn (xa σ, s2) = xn σ := (xn_fr c3).trans (xn_fr h3)
    have ez : xi (xa τ, q2) 0 0 = 0 := m3.2.1 0 (by decide)
    rw [← e3] at tf
    by_cases c : En g T n 0 0 n
    · refine ⟨_, 0, _, s2, _, q2, hn_L_reach G σ o f _ (ct_F_reach_f G σ s1 s2 t tf (by rw [e1, has1 (by omega)]; exact (k1 n).mpr c)), ct_M_reach_ff G τ _ q1 q2 t' rfl tp (by rw [e2, shr1 (by omega)]; exact (l1 n).mpr c), ⟨by decide, by decide⟩, ⟨by decide, by decide⟩, ez, ⟨xi (xa τ, q2) 0 3 + 1, rfl, fun _ => ?_⟩, ⟨g, T, n, m2⟩, ex⟩
      show Int32.toInt64 (xi (xa σ, s2) 10 0 + 1) = _
      rw [c2.ic.1, m2.im.1]
    · refine ⟨_, 0, _, s2, _, q2, hn_L_reach G σ o f _ (ct_F_reach_t G σ s1 s2 t tf (by rw [e1, has0' (by omega)]; exact fun q => c ((k1 n).mp q))), ct_M_reach_ft G τ _ q1 q2 t' rfl tp (by rw [e2, shr1 (by omega)]; exact fun q => c ((l1 n).mp q)), ⟨by decide, by decide⟩, ⟨by decide, by decide⟩, ez, ⟨xi (xa τ, q2) 9 0, rfl, fun _ => ?_⟩, ⟨g, T, n, m2⟩, ex⟩
      show Int32.toInt64 (xi (xa σ, s2) 17 0) = _
      rw [show xi (xa σ, s2) 17 0 = _ from k0.1.2.1, show xi (xa τ, q2) 9 0 = _ from l0.2]
  · exact ⟨_, 1, _, s1, _, (wi (xa τ, q1) 0 0 1).2, hz_L_reach_1 G σ o f (cz_F_reach_z1 G σ s1 z), ct_M_reach_t G τ _ q1 t' (by rw [n_0, n_eq (by omega) (by omega)]; exact hk), ⟨by decide, by decide⟩, ⟨by decide, by decide⟩, rfl, ⟨_, rfl, fun q => absurd q (by decide)⟩, ⟨g, T, n, i2.z 1⟩, xn_fr h3⟩
theorem o_expected (G : GG) (o : Nat) (f : Nat → Int64) (x : Int32) (h : Rel g T n σ τ) : OpH σ τ 4 (fun rH k5 f' s => CtH y_L_expected c_L_expected 4 (some .int) hs_L_expected rH G [.ref (xa σ 0), .int x, .ref o] (ow G o f :: WC G σ) (eqp (some (.int k5)) (ow G o f' :: WC G (xa σ, s)))) (fun v q => Ct y_M_expected c_M_expected 2 (some .long) rm_M_expected G [.ref (xa τ 0), .int x] (WM G τ) (eqp (some v) (WM G (xa τ, q)))) vJ := by
  have h60 := h.t.1
  obtain ⟨kd, v, s1, h1, h2, h3, h4, hr⟩ := r_right G h
  obtain ⟨kd', v', q1, i1, i2, i3, i4, i5, t'⟩ := r_fault G h2
  obtain ⟨rfl, rfl⟩ := h1.uniq i1
  have hb := h1.bd
  rcases hr with ⟨rfl, hr, t⟩ | ⟨hk, z⟩
  · obtain ⟨r0, r2, r3, r4⟩ := h1.right
    have e3 : xi (xa σ, s1) 10 0 = nI n := h2.ic.1
    have e4 : xi (xa τ, q1) 0 3 = nI n := i2.im.1
    by_cases c1 : x < 0
    · exact ⟨_, 2, _, s1, _, (wi (xa τ, q1) 0 0 2).2, hz_L_expected_2 G σ o f x (cz_F_expected_t G σ x s1 t c1), ct_M_expected_tt G τ x _ q1 t' rfl c1, ⟨by decide, by decide⟩, ⟨by decide, by decide⟩, rfl, ⟨_, rfl, fun q => absurd q (by decide)⟩, ⟨g, T, n, i2.z 2⟩, xn_fr h3⟩
    · by_cases c2 : x ≤ nI n
      · obtain ⟨e, he, rfl⟩ := nat_of (Int32.not_lt.mp c1)
        have c2s : nI e ≤ xi (xa σ, s1) 10 0 := by rw [e3]; exact c2
        have c2t : nI e ≤ xi (xa τ, q1) 0 3 := by rw [e4]; exact c2
        have hen : e ≤ n := by rw [n_le he (by omega)] at c2; exact c2
        obtain ⟨s2, d1, d2, d3, tf⟩ := r_chart G (e := e) i2 r2 hr h4 (by omega)
        obtain ⟨q2, od, o1, o2, m1, m2, m3, tp⟩ := r_places G (d2.z 0) r2 r4 (i5 rfl).2
        obtain ⟨q3, ⟨b1, b2, b3⟩, tn⟩ := m_findNexts G m2.w m2.m r2 m2.t m2.im hen m2.u o1 o2 m1
        have m4 : Rel g T n (xa σ, s2) (xa τ, q3) := m2.fm b3 (by decide) (by decide) b2
        have k0 := d1.2 0 (by omega) 0 (by omega)
        have k1 : ∀ i, tb (xl (xa σ, s2) 16 0) i = true ↔ En g T e 0 0 i := k0.1.1
        have k2 : ∀ t, tb (xl (xa σ, s2) 18 0) t = true ↔ Sn g T e 0 0 t := k0.1.2.2
        have l0 := m1 0 (by omega) 0 (by omega)
        have e8 : xl (xa τ, q3) 8 = xl (xa τ, q2) 8 := b3.el 8 (by decide)
        have l1 : ∀ i, tb (xl (xa τ, q3) 8 0) i = true ↔ En g T n 0 0 i := by rw [e8]; exact l0.1
        have l2 : ∀ t, tb (xl (xa τ, q3) 10 0) t = true ↔ Sn g T e 0 0 t := b1 0 (by omega) 0 (by omega)
        have e1 : xi (xa σ, s2) 12 0 = nI e := d1.1
        have ee : xl (xa σ, s2) 18 0 = xl (xa τ, q3) 10 0 := tb_ext (fun i _ => by
          rw [Bool.eq_iff_iff, k2, l2])
        have ex : xn (xa σ, s2) = xn σ := (xn_fr d3).trans (xn_fr h3)
        have ez : xi (xa τ, q3) 0 0 = 0 := (b3.2.1 0 (by decide)).trans (m3.2.1 0 (by decide))
        have ec : En g T e 0 0 e ↔ En g T n 0 0 e := (En_cut hen 0 0 e).trans ⟨fun q => q.1, fun q => ⟨q, Nat.le_refl _⟩⟩
        by_cases c : En g T e 0 0 e
        · refine ⟨_, 0, _, s2, _, q3, hn_L_expected G σ o f (nI e) _ (ct_F_expected_ftf G σ (nI e) s1 s2 t c1 c2s tf (by rw [e1, has1 (by omega)]; exact (k1 e).mpr c)), ct_M_expected_tftf G τ (nI e) _ q1 q2 q3 t' rfl c1 c2t tp tn (by rw [shr1 (by omega)]; exact (l1 e).mpr (ec.mp c)), ⟨by decide, by decide⟩, ⟨by decide, by decide⟩, ez, ⟨_, rfl, fun _ => ?_⟩, ⟨g, T, n, m4⟩, ex⟩
          show xl (xa σ, s2) 18 0 ||| 4294967296 = xl (xa τ, q3) 10 0 ||| 4294967296
          rw [ee]
        · refine ⟨_, 0, _, s2, _, q3, hn_L_expected G σ o f (nI e) _ (ct_F_expected_ftt G σ (nI e) s1 s2 t c1 c2s tf (by rw [e1, has0' (by omega)]; exact fun q => c ((k1 e).mp q))), ct_M_expected_tftt G τ (nI e) _ q1 q2 q3 t' rfl c1 c2t tp tn (by rw [shr1 (by omega)]; exact fun q => c (ec.mpr ((l1 e).mp q))), ⟨by decide, by decide⟩, ⟨by decide, by decide⟩, ez, ⟨_, rfl, fun _ => ?_⟩, ⟨g, T, n, m4⟩, ex⟩
          show xl (xa σ, s2) 18 0 ||| 0 = xl (xa τ, q3) 10 0 ||| 0
          rw [ee]
      · exact ⟨_, 2, _, s1, _, (wi (xa τ, q1) 0 0 2).2, hz_L_expected_2 G σ o f x (cz_F_expected_ff G σ x s1 t c1 (by rw [e3]; exact c2)), ct_M_expected_tff G τ x _ q1 t' rfl c1 (by rw [e4]; exact c2), ⟨by decide, by decide⟩, ⟨by decide, by decide⟩, rfl, ⟨_, rfl, fun q => absurd q (by decide)⟩, ⟨g, T, n, i2.z 2⟩, xn_fr h3⟩
  · exact ⟨_, 1, _, s1, _, (wi (xa τ, q1) 0 0 1).2, hz_L_expected_1 G σ o f x (cz_F_expected_z1 G σ x s1 z), ct_M_expected_f G τ x _ q1 t' (by rw [n_0, n_eq (by omega) (by omega)]; exact hk), ⟨by decide, by decide⟩, ⟨by decide, by decide⟩, rfl, ⟨_, rfl, fun q => absurd q (by decide)⟩, ⟨g, T, n, i2.z 1⟩, xn_fr h3⟩
end OO
