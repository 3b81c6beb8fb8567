section OO
variable {g : Gr} {T : Nat → Int} {n : Nat} {σ τ : St}
theorem altC_of {r : Nat} (hw : WF g) (hg : GC g σ) (hr : r < gR g) : altC σ r = nI (gA g r) := by
  have h16 := hw.r
  unfold altC
  rw [if_neg (by rw [hg.1, n_le (by omega) (by omega)]; omega)]
  exact hg.2.1 r (by omega)
theorem sym_of {x : Int32} (h1 : ¬ x < -16) (h2 : x < 32) : ∃ y : Int, (-16 ≤ y ∧ y ≤ 31) ∧ x = sI y := by
  refine ⟨x.toInt, ?_, (sI_of x).symm⟩
  have h1 := Int32.not_lt.mp h1
  rw [Int32.le_iff_toInt_le] at h1
  rw [Int32.lt_iff_toInt_lt] at h2
  have e1 : (-16 : Int32).toInt = -16 := by decide
  have e2 : (32 : Int32).toInt = 32 := by decide
  omega
theorem i32_le31 {x : Int32} : x ≤ 31 ↔ x < 32 := by
  rw [Int32.le_iff_toInt_le, Int32.lt_iff_toInt_lt]
  have e1 : (31 : Int32).toInt = 31 := by decide
  have e2 : (32 : Int32).toInt = 32 := by decide
  omega
theorem o_alternative (G : GG) (o : Nat) (f : Nat → Int64) (x : Int32) (h : Rel g T n σ τ) : OpH σ τ 4 (fun rH k5 f' s => CtH y_L_alternative c_L_alternative 4 (some .int) hs_L_alternative rH G [.ref (xa σ 0), .int x, .ref o] (ow G o f :: WC G σ) (eqp (some (.int k5)) (ow G o f' :: WC G (xa σ, s)))) (fun v q => Ct y_M_alternative c_M_alternative 3 (some .int) rm_M_alternative G [.ref (xa τ 0), .int x] (WM G τ) (eqp (some v) (WM G (xa τ, q)))) vI := by
  have h16 := h.w.r
  have e2 : xi τ 0 1 = nI (gR g) := h.m.1
  rcases r_rule G h.w h.c x with ⟨r, hr, rfl, t⟩ | ⟨hn, z⟩
  · have ec := altC_of h.w h.c hr
    have em : xi τ 1 r = nI (gA g r) := h.m.2.1 r (by omega)
    have es : xi σ 2 r = nI (gA g r) := h.c.2.1 r (by omega)
    have c6 : ¬ b2i (decide (0 ≤ nI r ∧ nI r < xi τ 0 1)) = 0 := by rw [e2, b2i_t (rule_in h16 hr)]; decide
    have h8 := h.w.a r
    by_cases c : gA g r = 8
    · exact ⟨_, 2, _, σ.2, _, (wi τ 0 0 2).2, hz_L_alternative_2 G σ o f (nI r) (cz_F_alternative_f G σ (nI r) r t rfl (by omega) (by rw [ec, c]; rfl)), ct_M_alternative_tf G τ (nI r) r c6 rfl (by omega) (by rw [em, c]; rfl), ⟨by decide, by decide⟩, ⟨by decide, by decide⟩, rfl, ⟨_, rfl, fun q => absurd q (by decide)⟩, ⟨g, T, n, h.z 2⟩, rfl⟩
    · have c8 : ¬ nI (gA g r) = 8 := by rw [show (8 : Int32) = nI 8 from rfl, n_eq (by omega) (by omega)]; exact c
      have e8 : xi (wi (wi σ 5 0 0) 2 r (xi σ 2 r + 1)) 2 r = nI (gA g r + 1) := by
        show upd (xi σ 2) r (xi σ 2 r + 1) r = _
        unfold upd; rw [if_pos rfl, es, n_s]
      refine ⟨_, 0, _, (wi (wi (wi σ 5 0 0) 2 r (xi σ 2 r + 1)) 3 (8 * r + gA g r) 0).2, _, (wi (wi (wi τ 0 0 0) 2 (8 * r + gA g r) 0) 1 r (xi τ 1 r + 1)).2, hn_L_alternative G σ o f (nI r) _ (ct_F_alternative_t G σ (nI r) r (wi σ 5 0 0).2 _ _ t rfl (by omega) (by rw [ec]; exact c8) (ct_S_outdate_ G σ) (ct_G_addAlternative_ G (wi σ 5 0 0) (nI r) r _ (8 * r + gA g r) rfl (by omega) (ct_G_latestRow_ G (wi (wi σ 5 0 0) 2 r (xi σ 2 r + 1)) (nI r) r rfl (by omega)) (by rw [e8, n_p (by omega), show (8 : Int32) = nI 8 from rfl, n_mul, n_add, Nat.mul_comm]; rfl) (by omega))),
        ct_M_alternative_tt G τ (nI r) r (8 * r + gA g r) c6 rfl (by omega) (by rw [em]; exact c8) (by rw [em, show (8 : Int32) = nI 8 from rfl, n_mul, n_add]) (by omega), ⟨by decide, by decide⟩, ⟨by decide, by decide⟩, rfl, ⟨xi τ 1 r, rfl, fun _ => ?_⟩, ⟨(gR g, updN (gA g) r (gA g r + 1), updN (gL g) (8 * r + gA g r) 0, g.2.2.2), T, n, ?_⟩, rfl⟩
      · show Int32.toInt64 (xi (wi (wi σ 5 0 0) 2 r (xi σ 2 r + 1)) 2 r - 1) = _
        rw [e8, em, n_p (by omega)]; rfl
      · refine ⟨⟨h.w.r, fun k => updN_le h.w.a (by omega) k, fun k => updN_le h.w.l (by omega) k, h.w.2.2.2⟩, h.t, ⟨h.c.1, updN_r h.c.2.1 r _ (by rw [es, n_s]), updN_r h.c.2.2.1 _ 0 rfl, h.c.2.2.2⟩, ⟨h.m.1, updN_r h.m.2.1 r _ (by rw [em, n_s]), updN_r h.m.2.2.1 _ 0 rfl, h.m.2.2.2⟩, h.ic, h.im, fun q => absurd rfl q, h.tr, h.u⟩
  · have c6 : b2i (decide (0 ≤ x ∧ x < xi τ 0 1)) = 0 := by rw [e2, b2i_f hn]
    exact ⟨_, 1, _, σ.2, _, (wi τ 0 0 1).2, hz_L_alternative_1 G σ o f x (cz_F_alternative_z2 G σ x z), ct_M_alternative_f G τ x c6, ⟨by decide, by decide⟩, ⟨by decide, by decide⟩, rfl, ⟨_, rfl, fun q => absurd q (by decide)⟩, ⟨g, T, n, h.z 1⟩, rfl⟩
theorem o_symbol (G : GG) (o : Nat) (f : Nat → Int64) (x z : Int32) (h : Rel g T n σ τ) : OpH σ τ 5 (fun rH k5 f' s => CtH y_L_symbol c_L_symbol 5 (some .int) hs_L_symbol rH G [.ref (xa σ 0), .int x, .int z, .ref o] (ow G o f :: WC G σ) (eqp (some (.int k5)) (ow G o f' :: WC G (xa σ, s)))) (fun v q => Ct y_M_symbol c_M_symbol 4 (some .int) rm_M_symbol G [.ref (xa τ 0), .int x, .int z] (WM G τ) (eqp (some v) (WM G (xa τ, q)))) vI := by
  have h16 := h.w.r
  have e2 : xi τ 0 1 = nI (gR g) := h.m.1
  rcases r_rule G h.w h.c x with ⟨r, hr, rfl, t⟩ | ⟨hn, tz⟩
  · have ec := altC_of h.w h.c hr
    have em : xi τ 1 r = nI (gA g r) := h.m.2.1 r (by omega)
    have es : xi σ 2 r = nI (gA g r) := h.c.2.1 r (by omega)
    have c5 : ¬ b2i (decide (0 ≤ nI r ∧ nI r < xi τ 0 1)) = 0 := by rw [e2, b2i_t (rule_in h16 hr)]; decide
    have h8 := h.w.a r
    by_cases c1 : z < -16
    · exact ⟨_, 2, _, σ.2, _, (wi τ 0 0 2).2, hz_L_symbol_2 G σ o f (nI r) z (cz_F_symbol_t G σ (nI r) z t c1), ct_M_symbol_ftt G τ (nI r) z r c5 rfl (by omega) c5 c1, ⟨by decide, by decide⟩, ⟨by decide, by decide⟩, rfl, ⟨_, rfl, fun q => absurd q (by decide)⟩, ⟨g, T, n, h.z 2⟩, rfl⟩
    · by_cases c2 : z < 32
      · obtain ⟨y, hy, ey⟩ := sym_of c1 c2
        have c43 : z ≤ 31 := i32_le31.mpr c2
        by_cases c3 : gA g r = 0
        · have c51 : ¬ 0 ≤ xi τ 1 r - 1 := by rw [em, c3]; decide
          exact ⟨_, 3, _, σ.2, _, (wi τ 0 0 3).2, hz_L_symbol_3 G σ o f (nI r) z (cz_F_symbol_ftf G σ (nI r) z r t c1 c2 rfl (by omega) (by rw [ec, c3]; rfl)), ct_M_symbol_ftftf G τ (nI r) z r c5 rfl (by omega) c5 c1 c43 c51, ⟨by decide, by decide⟩, ⟨by decide, by decide⟩, rfl, ⟨_, rfl, fun q => absurd q (by decide)⟩, ⟨g, T, n, h.z 3⟩, rfl⟩
        · obtain ⟨A, eA⟩ : ∃ A, gA g r = A + 1 := ⟨gA g r - 1, by omega⟩
          have hl := h.w.l (8 * r + A)
          have ca : ¬ altC σ r = 0 := by rw [ec, n_0, n_eq (by omega) (by omega)]; exact c3
          have em1 : xi τ 1 r - 1 = nI A := by rw [em, eA, n_p (by omega)]; rfl
          have es1 : xi σ 2 r - 1 = nI A := by rw [es, eA, n_p (by omega)]; rfl
          have c51 : 0 ≤ xi τ 1 r - 1 := by rw [em1, n_0, n_le (by omega) (by omega)]; omega
          have e61 : 8 * nI r + (xi τ 1 r - 1) = nI (8 * r + A) := by rw [em1, show (8 : Int32) = nI 8 from rfl, n_mul, n_add]
          have e60 : nI r * 8 + (xi σ 2 r - 1) = nI (8 * r + A) := by rw [es1, show (8 : Int32) = nI 8 from rfl, n_mul, n_add, Nat.mul_comm]
          have lm : xi τ 2 (8 * r + A) = nI (gL g (8 * r + A)) := h.m.2.2.1 _ (by omega)
          have ls : xi σ 3 (8 * r + A) = nI (gL g (8 * r + A)) := h.c.2.2.1 _ (by omega)
          by_cases c4 : gL g (8 * r + A) = 8
          · exact ⟨_, 4, _, σ.2, _, (wi τ 0 0 4).2, hz_L_symbol_4 G σ o f (nI r) z (cz_F_symbol_fttf G σ (nI r) z r _ (8 * r + A) t c1 c2 rfl (by omega) ca (ct_G_latestRow_ G σ (nI r) r rfl (by omega)) e60 (by omega) (by rw [ls, c4]; rfl)), ct_M_symbol_ftfttf G τ (nI r) z r (8 * r + A) c5 rfl (by omega) c5 c1 c43 c51 e61 (by omega) (by rw [lm, c4]; rfl), ⟨by decide, by decide⟩, ⟨by decide, by decide⟩, rfl, ⟨_, rfl, fun q => absurd q (by decide)⟩, ⟨g, T, n, h.z 4⟩, rfl⟩
          · have c8 : ¬ nI (gL g (8 * r + A)) = 8 := by rw [show (8 : Int32) = nI 8 from rfl, n_eq (by omega) (by omega)]; exact c4
            have e107 : 64 * nI r + 8 * (xi τ 1 r - 1) + xi τ 2 (8 * r + A) = nI (8 * (8 * r + A) + gL g (8 * r + A)) := by
              rw [em1, lm, show (8 : Int32) = nI 8 from rfl, show (64 : Int32) = nI 64 from rfl, n_mul, n_mul, n_add, n_add]; congr 1; omega
            have e22 : (nI r * 8 + (xi σ 2 r - 1)) * 8 + xi σ 3 (8 * r + A) = nI (8 * (8 * r + A) + gL g (8 * r + A)) := by
              rw [e60, ls, show (8 : Int32) = nI 8 from rfl, n_mul, n_add, Nat.mul_comm]
            obtain ⟨J, eJ⟩ : ∃ J, J = 8 * (8 * r + A) + gL g (8 * r + A) := ⟨_, rfl⟩
            rw [← eJ] at e107 e22
            have hJ : J < 1024 := by omega
            refine ⟨_, 0, _, (wi (wi (wi σ 5 0 0) 4 J z) 3 (8 * r + A) (xi σ 3 (8 * r + A) + 1)).2, _, (wi (wi (wi τ 0 0 0) 3 J z) 2 (8 * r + A) (xi τ 2 (8 * r + A) + 1)).2, hn_L_symbol G σ o f (nI r) z _ (ct_F_symbol_fttt G σ (nI r) z r _ (8 * r + A) (wi σ 5 0 0).2 _ _ t c1 c2 rfl (by omega) ca (ct_G_latestRow_ G σ (nI r) r rfl (by omega)) e60 (by omega) (by rw [ls]; exact c8) (ct_S_outdate_ G σ) (ct_G_addSymbol_ G (wi σ 5 0 0) (nI r) z _ (8 * r + A) J (ct_G_latestRow_ G (wi σ 5 0 0) (nI r) r rfl (by omega)) e60 (by omega) e22 hJ)),
              ct_M_symbol_ftfttt G τ (nI r) z r (8 * r + A) J c5 rfl (by omega) c5 c1 c43 c51 e61 (by omega) (by rw [lm]; exact c8) e107 hJ, ⟨by decide, by decide⟩, ⟨by decide, by decide⟩, rfl, ⟨_, rfl, fun _ => ?_⟩, ⟨(gR g, gA g, updN (gL g) (8 * r + A) (gL g (8 * r + A) + 1), updZ g.2.2.2 J y), T, n, ?_⟩, rfl⟩
            · show Int32.toInt64 (upd (xi σ 3) (8 * r + A) (xi σ 3 (8 * r + A) + 1) (8 * r + A)) = Int32.toInt64 (upd (xi τ 2) (8 * r + A) (xi τ 2 (8 * r + A) + 1) (8 * r + A))
              unfold upd
              rw [if_pos rfl, if_pos rfl, ls, lm]
            · refine ⟨⟨h.w.r, h.w.a, fun k => updN_le h.w.l (by omega) k, fun k => ?_⟩, h.t, ⟨h.c.1, h.c.2.1, updN_r h.c.2.2.1 _ _ (by rw [ls, n_s]), updZ_r h.c.2.2.2 J y ey⟩, ⟨h.m.1, h.m.2.1, updN_r h.m.2.2.1 _ _ (by rw [lm, n_s]), updZ_r h.m.2.2.2 J y ey⟩, h.ic, h.im, fun q => absurd rfl q, h.tr, h.u⟩
              show -16 ≤ updZ g.2.2.2 J y k ∧ updZ g.2.2.2 J y k ≤ 31
              unfold updZ; split
              · exact hy
              · exact h.w.2.2.2 k
      · have c43 : ¬ z ≤ 31 := fun q => c2 (i32_le31.mp q)
        exact ⟨_, 2, _, σ.2, _, (wi τ 0 0 2).2, hz_L_symbol_2 G σ o f (nI r) z (cz_F_symbol_ff G σ (nI r) z t c1 c2), ct_M_symbol_ftff G τ (nI r) z r c5 rfl (by omega) c5 c1 c43, ⟨by decide, by decide⟩, ⟨by decide, by decide⟩, rfl, ⟨_, rfl, fun q => absurd q (by decide)⟩, ⟨g, T, n, h.z 2⟩, rfl⟩
  · have c6 : b2i (decide (0 ≤ x ∧ x < xi τ 0 1)) = 0 := by rw [e2, b2i_f hn]
    exact ⟨_, 1, _, σ.2, _, (wi τ 0 0 1).2, hz_L_symbol_1 G σ o f x z (cz_F_symbol_z2 G σ x z tz), ct_M_symbol_tf G τ x z c6 c6, ⟨by decide, by decide⟩, ⟨by decide, by decide⟩, rfl, ⟨_, rfl, fun q => absurd q (by decide)⟩, ⟨g, T, n, h.z 1⟩, rfl⟩
end OO
