section OO
variable {g : Gr} {T : Nat → Int} {n : Nat} {σ τ : St}
theorem m_copy (G : GG) {N : Nat} (hN : N ≤ 2000) (e4 : xi τ 0 4 = nI N) (b : Int32) :
    ∃ fD, (∀ j, j < 7 * N → fD j = xi τ 17 j) ∧ ∀ q, (fun q : KP => Bd q.1 G q.2.1 "FirstTreesModel" c_M_parse 3 (some .int) rm_M_parse) q → q.2.2 (some (.int b)) (WM G (si τ 16 fD)) → Lb q.1 G q.2.1 (Qe q.1 G q.2.1 q.2.2 rm_M_parse) 3 104 [(0, .ref (xa τ 0)), (1, .int b), (2, .int 0)] [] (WM G τ) 0 0 := by
  have e7 : 7 * nI N = nI (7 * N) := by rw [show (7 : Int32) = nI 7 from rfl, n_mul]
  obtain ⟨fD, a1, k1⟩ := iterL (α := Nat → Int32) (C := fun q : KP => Bd q.1 G q.2.1 "FirstTreesModel" c_M_parse 3 (some .int) rm_M_parse) (7 * N) (fun i f => ∀ j, j < i → f j = xi τ 17 j)
    (fun q i f => Lb q.1 G q.2.1 (Qe q.1 G q.2.1 q.2.2 rm_M_parse) 3 104 [(0, .ref (xa τ 0)), (1, .int b), (2, .int (nI i))] [] (WM G (si τ 16 f)) 0 0) (by
    intro i f hi hf
    refine ⟨upd f i (xi τ 17 i), fun j hj => ?_, fun q X k => ?_⟩
    · unfold upd
      by_cases c : j = i
      · rw [if_pos c, c]
      · rw [if_neg c]; exact hf j (by omega)
    · refine sg_M_parse_104_f104 X (si τ 16 f) b (nI i) i (by rw [show xi (si τ 16 f) 0 4 = xi τ 0 4 from rfl, e4, e7, n_le (by omega) (by omega)]; omega) rfl (by omega) (by omega) ?_
      rw [n_s, wi_si]
      exact k) 0 (xi τ 16) (by omega) (fun j hj => by omega)
  refine ⟨fD, a1, fun q X hp => ?_⟩
  have k1 := k1 q X
  rw [si_id] at k1
  refine k1 ?_
  exact sg_M_parse_104_tr X (si τ 16 fD) b (nI (7 * N)) (by rw [show xi (si τ 16 fD) 0 4 = xi τ 0 4 from rfl, e4, e7]; exact Int32.le_refl _) hp
theorem okC.of {e : Nat} {σ' : St} (hC : okC g T e σ) (e12 : xi σ' 12 = xi σ 12) (e15 : xi σ' 15 = xi σ 15) (e17 : xi σ' 17 = xi σ 17) (e14 : xl σ' 14 = xl σ 14) (e16 : xl σ' 16 = xl σ 16) (e18 : xl σ' 18 = xl σ 18) : okC g T e σ' := by
  unfold okC okT okR
  rw [e12, e15, e17, e14, e16, e18]
  exact hC
/-- a state that only the walk has touched -/
theorem Rel.fk {σ' : St} (h : Rel g T n σ τ) (F : FK pK σ σ') : Rel g T n σ' τ := by
  refine ⟨h.w, h.t, h.c.of (F.1 1 (by decide)) (F.1 2 (by decide)) (F.1 3 (by decide)) (F.1 4 (by decide)), h.m, ?_, h.im, ?_, ?_, h.u⟩
  · unfold IC; rw [F.1 10 (by decide), F.1 11 (by decide)]; exact h.ic
  · intro q
    rw [F.1 5 (by decide)] at q
    exact (h.st q).of (F.1 5 (by decide)) (F.1 7 (by decide)) (by rw [F.2]) (by rw [F.2])
  · unfold TreeR; rw [F.1 24 (by decide), F.1 25 (by decide)]; exact h.tr
def OpP (G : GG) (o : Nat) (f : Nat → Int64) (σ τ : St) : Prop :=
  ∃ rH k5 f' v q δ R, CtH y_L_parse c_L_parse 3 (some .int) hs_L_parse rH G [.ref (xa σ 0), .ref o] (ow G o f :: WC G σ) (PH G o (xa σ 0) f' R k5) ∧ Ct y_M_parse c_M_parse 3 (some .int) rm_M_parse G [.ref (xa τ 0)] (WM G τ) (eqp (some v) (WM G (xa τ, q))) ∧ (rH.frames + 1 ≤ 11 ∧ 8 + (3 + 11) + rH.locals ≤ 384) ∧ (rH.cells ≤ 2 * δ + 1 ∧ rH.slots ≤ 64 * δ + 6 ∧ xn σ + δ ≤ 2061) ∧ xi (xa τ, q) 0 0 = k5 ∧ vI k5 v (f' 0) ∧
    ∀ σ', R σ' → (∃ g T n, Rel g T n σ' (xa τ, q)) ∧ xn σ' = xn σ + δ ∧ xn σ' ≤ 2061
theorem o_parse (G : GG) (o : Nat) (f : Nat → Int64) (h : Rel g T n σ τ) (hx : xn σ ≤ 2061) : OpH σ τ 3 (fun rH k5 f' s => CtH y_L_parse c_L_parse 3 (some .int) hs_L_parse rH G [.ref (xa σ 0), .ref o] (ow G o f :: WC G σ) (eqp (some (.int k5)) (ow G o f' :: WC G (xa σ, s)))) (fun v q => Ct y_M_parse c_M_parse 3 (some .int) rm_M_parse G [.ref (xa τ 0)] (WM G τ) (eqp (some v) (WM G (xa τ, q)))) vI ∨ OpP G o f σ τ := by
  have h60 := h.t.1
  obtain ⟨kd, v, s1, h1, h2, h3, h4, hr⟩ := r_right G h
  obtain ⟨kd', v', q1, i1, i2, i3, i4, i5, t'⟩ := r_fault G h2
  obtain ⟨rfl, rfl⟩ := h1.uniq i1
  have hb := h1.bd
  rcases hr with ⟨rfl, hr, t⟩ | ⟨hk, z⟩
  · obtain ⟨r0, r2, r3, r4⟩ := h1.right
    obtain ⟨s2, c1, c2, c3, tf⟩ := r_chart G (e := n) i2 r2 hr h4 h60
    obtain ⟨q2, od, o1, o2, m1, m2, m3, tp⟩ := r_places G (c2.z 0) r2 r4 (i5 rfl).2
    have k0 := c1.2 0 (by omega) 0 (by omega)
    have k1 : ∀ i, tb (xl (xa σ, s2) 16 0) i = true ↔ En g T n 0 0 i := k0.1.1
    have l0 := m1 0 (by omega) 0 (by omega)
    have l1 : ∀ i, tb (xl (xa τ, q2) 8 0) i = true ↔ En g T n 0 0 i := l0.1
    have e1 : xi (xa σ, s2) 12 0 = nI n := c1.1
    have e2 : xi (xa τ, q2) 0 3 = nI n := m2.im.1
    have e3 : xi (xa σ, s1) 10 0 = nI n := h2.ic.1
    have ex : xn (xa σ, s2) = xn σ := (xn_fr c3).trans (xn_fr h3)
    have ez : xi (xa τ, q2) 0 0 = 0 := m3.2.1 0 (by decide)
    rw [← e3] at tf
    by_cases c : En g T n 0 0 n
    · right
      have c25 : ¬ (hasB (xl (xa σ, s2) 16 0) (xi (xa σ, s2) 12 0)) = 0 := by rw [e1, has1 (by omega)]; exact (k1 n).mpr c
      have c43 : ¬ (shrL (xl (xa τ, q2) 8 0) (xi (xa τ, q2) 0 3)) &&& 1 = 0 := by rw [e2, shr0 (by omega)]; exact fun q => q ((l1 n).mpr c)
      obtain ⟨r, δ, s3, hd, f3, n3, b3, td⟩ := k_derive G (σ := (xa σ, s2)) c2.w c2.c (by omega) r2 c2.t h60 c1 c2.ic.2 c
      obtain ⟨q3, ⟨w1, w2, w3⟩, tw⟩ := m_findWays G m2.w m2.m r0 r2 r4 m2.t m2.im m2.u o1 o2 m1
      have m5 : Rel g T n (xa σ, s2) (xa τ, q3) := m2.fm w3 (by decide) (by decide) w2
      have e8 : xl (xa τ, q3) 8 = xl (xa τ, q2) 8 := w3.el 8 (by decide)
      have e9 : xi (xa τ, q3) 9 = xi (xa τ, q2) 9 := w3.ei 9 (by decide)
      have m1' : ∀ y, y < gR g → ∀ q, q ≤ n → okM g T n (xa τ, q3) y q := by
        intro y hy q hq
        unfold okM; rw [e8, e9]; exact m1 y hy q hq
      obtain ⟨r', q4, he, u4, f4, tt⟩ := m_makeTree G m5.w m5.m (by omega) r2 m5.t m5.im m1' c
      have m6 : Rel g T n (xa σ, s2) (xa τ, q4) := m5.fm f4 (by decide) (by decide) u4
      have xb : xn (xa σ, s3) ≤ 2061 := b3 (by rw [ex]; exact hx)
      have xe : xn (xa σ, s3) = xn σ + δ := by rw [n3, ex]
      have z4 : xi (xa τ, q4) 0 0 = 0 := (f4.2.1 0 (by decide)).trans ((w3.2.1 0 (by decide)).trans ez)
      have td' := td (xa σ)
      rcases hd with ⟨rfl, k, d1, d2, d3, d4⟩ | ⟨rfl, k, d1⟩
      · rcases he with ⟨rfl, k', g1, g2, g3, g4⟩ | ⟨rfl, k', g1⟩
        · have eu := itr_uniq d1 g1
          rw [← eu] at g2 g3 g4
          obtain ⟨N, eN⟩ : ∃ N, N = (itr g T n (fun _ _ => 0) k).2.2.1 := ⟨_, rfl⟩
          obtain ⟨D, eD⟩ : ∃ D, D = (itr g T n (fun _ _ => 0) k).2.2.2 := ⟨_, rfl⟩
          rw [← eN] at d2 d3 d4 g2 g3 g4
          rw [← eD] at d4 g4
          obtain ⟨τ5, e5⟩ : ∃ τ5, τ5 = wi (wi (xa τ, q4) 0 0 0) 0 4 (xi (xa τ, q4) 0 5) := ⟨_, rfl⟩
          have n5 : xi τ5 0 4 = nI N := by rw [e5]; exact g3
          obtain ⟨fD, a1, kc⟩ := m_copy G (τ := τ5) d2 n5 (Int64.toInt32 (xl (xa τ, q3) 11 n))
          have a5 : τ5 = (xa τ, τ5.2) := by rw [e5]; rfl
          have ew : Int64.toInt32 (xl (xa τ, q3) 11 n) = nI (cp (Nw g T n 0 0 n)) := by
            have := cp_le (Nw g T n 0 0 n)
            rw [w1, nL_l (by omega)]
          have rl : ∀ σ' : St, (∀ k, k < 20 → xi σ' k = s3.1 k) → (∀ k, k < 20 → xl σ' k = s3.2.1 k) → xi σ' 24 0 = nI N → (∀ j, j < 7 * N → xi σ' 25 j = s3.1 27 j) → Rel g T n σ' (si τ5 16 fD) := by
            intro σ' x1 x2 x3 x4
            have y1 : ∀ k, k < 20 → xi σ' k = xi (xa σ, s2) k := fun k hk => (x1 k (by omega)).trans (f3.1 k (by simp only [pK]; omega))
            have y2 : ∀ k, k < 20 → xl σ' k = xl (xa σ, s2) k := fun k hk => (x2 k hk).trans (congrFun f3.2 k)
            refine ⟨h.w, h.t, c2.c.of (y1 1 (by omega)) (y1 2 (by omega)) (y1 3 (by omega)) (y1 4 (by omega)), ?_, ?_, ?_, ?_, ⟨N, d2, x3, n5, fun j hj => ?_⟩, ?_⟩
            · rw [e5]; exact m6.m
            · unfold IC; rw [y1 10 (by omega), y1 11 (by omega)]; exact c2.ic
            · rw [e5]; exact m6.im
            · intro q
              rw [y1 5 (by omega)] at q
              exact (c2.st q).of (y1 5 (by omega)) (y1 7 (by omega)) (y2 8 (by omega)) (y2 9 (by omega))
            · show _ = fD j
              rw [x4 j hj, a1 j hj]
              have q1 := d4 (j / 7) (by omega) (j % 7) (by omega)
              have q2 := g4 (j / 7) (by omega) (j % 7) (by omega)
              rw [Nat.div_add_mod] at q1 q2
              have q3 : xi τ5 17 j = xi (xa τ, q4) 17 j := by rw [e5]; rfl
              rw [q3, q2]; exact q1
            · rw [e5]; exact m6.u
          refine ⟨_, 0, _, .int (nI (cp (Nw g T n 0 0 n))), (si τ5 16 fD).2, δ, fun σ' => Rel g T n σ' (xa τ, (si τ5 16 fD).2) ∧ xn σ' = xn σ + δ, hn_L_parseR G σ o f (nI (cp (Nw g T n 0 0 n))) (k_parse_t G σ s1 s2 s3 δ _ _ t tf c25 td' ?_), ?_, ⟨Nat.le_of_ble_eq_true rfl, Nat.le_of_ble_eq_true rfl⟩, ⟨by show 2 * δ ≤ 2 * δ + 1; omega, by show 64 * δ ≤ 64 * δ + 6; omega, by rw [← xe]; exact xb⟩, ?_, ⟨_, rfl, fun _ => rfl⟩, fun σ' hR => ⟨⟨g, T, n, hR.1⟩, hR.2, by rw [hR.2, ← xe]; exact xb⟩⟩
          · intro a
            have y1 : ∀ k, k < 22 → xi (swp (a, s3)) k = xi (xa σ, s2) k := fun k hk => (sw4_lt (by omega)).trans (f3.1 k (by simp only [pK]; omega))
            have y2 : xl (swp (a, s3)) = xl (xa σ, s2) := f3.2
            have so : StR g (xa σ, s2) := by
              have : StOk g (xa σ, s2) := h4.of (c3.ei 5 (by decide)) (c3.ei 7 (by decide)) (c3.el 8 (by decide)) (c3.el 9 (by decide))
              obtain ⟨⟨oo, p1, p2⟩, p3, p4⟩ := hr
              refine ⟨⟨oo, p1, fun k hk => ?_⟩, fun x hx => ?_, fun x hx => ?_⟩
              · rw [c3.ei 7 (by decide)]; exact p2 k hk
              · rw [c3.el 8 (by decide)]; exact p3 x hx
              · rw [c3.el 9 (by decide)]; exact p4 x hx
            obtain ⟨⟨oo, p1, p2⟩, _, _⟩ := so
            obtain ⟨s4, f5, t83⟩ := k_ofWholeInput G (σ := swp (a, s3)) (e := n) h.w (c2.c.of (y1 1 (by omega)) (y1 2 (by omega)) (y1 3 (by omega)) (y1 4 (by omega))) r0 r2 r4 h.t h60 (c1.of (y1 12 (by omega)) (y1 15 (by omega)) (y1 17 (by omega)) (by rw [y2]) (by rw [y2]) (by rw [y2])) (by rw [y1 11 (by omega)]; exact c2.ic.2) p1 (by rw [y1 7 (by omega)]; exact p2)
            refine ⟨s4, ⟨?_, ?_⟩, t83⟩
            · have := rl (sw4 a, s4) (fun k hk => (f5.ei k (by simp only [inR]; omega)).trans (sw4_lt (by omega))) (fun k hk => f5.el k (by simp only [inR]; omega)) ?_ ?_
              · rw [a5] at this; exact this
              · rw [show xi (sw4 a, s4) 24 = _ from f5.ei 24 (by decide)]; exact d3
              · intro j hj
                rw [show xi (sw4 a, s4) 25 = _ from f5.ei 25 (by decide)]; rfl
            · exact (xn_fr f5).trans xe
          · refine Ct.of (by decide +kernel) (Nat.le_of_ble_eq_true rfl) (fun K X => ?_)
            refine sg_M_parse_0_ftf104 X τ _ q1 q2 q3 n _ q4 t' rfl tp c43 tw m5.im.1 (by omega) tt (by decide) ?_
            rw [← e5]
            have kc := kc (K, _, eqp (some (.int (nI (cp (Nw g T n 0 0 n))))) (WM G (xa τ, (si τ5 16 fD).2))) X ⟨by rw [ew], by rw [a5]; rfl⟩
            rw [a5] at kc
            exact a5 ▸ kc
          · rw [e5]; rfl
        · exact absurd (itr_excl h.w d1 d2 g1) (fun q => q)
      · rcases he with ⟨rfl, k', g1, g2, g3, g4⟩ | ⟨rfl, k', g1⟩
        · exact absurd (itr_excl h.w g1 g2 d1) (fun q => q)
        · refine ⟨_, 2, f, .int 0, (wi (xa τ, q4) 0 0 2).2, δ, fun σ' => Rel g T n σ' (wi (xa τ, q4) 0 0 2) ∧ xn σ' = xn σ + δ, hz_L_parse_2R G σ o f (k_parse_z G σ s1 s2 s3 δ _ t tf c25 td' (fun a => ⟨?_, xe⟩)), ?_, ⟨Nat.le_of_ble_eq_true rfl, Nat.le_of_ble_eq_true rfl⟩, ⟨Nat.le_refl _, Nat.le_refl _, by rw [← xe]; exact xb⟩, rfl, ⟨_, rfl, fun q => absurd q (by decide)⟩, fun σ' hR => ⟨⟨g, T, n, hR.1⟩, hR.2, by rw [hR.2, ← xe]; exact xb⟩⟩
          · exact (m6.z 2).fk (σ' := (a, s3)) f3
          · refine Ct.of (by decide +kernel) (Nat.le_of_ble_eq_true rfl) (fun K X => ?_)
            exact sg_M_parse_0_fttr X τ _ q1 q2 q3 n _ q4 t' rfl tp c43 tw m5.im.1 (by omega) tt rfl ⟨rfl, rfl⟩
    · left
      have c25 : (hasB (xl (xa σ, s2) 16 0) (xi (xa σ, s2) 12 0)) = 0 := by rw [e1, has0' (by omega)]; exact fun q => c ((k1 n).mp q)
      have c43 : (shrL (xl (xa τ, q2) 8 0) (xi (xa τ, q2) 0 3)) &&& 1 = 0 := by rw [e2, shr0 (by omega)]; exact fun q => c ((l1 n).mp q)
      refine ⟨_, 0, _, (wi (xa σ, s2) 24 0 0).2, .int 0, (wi (xa τ, q2) 0 4 0).2, hn_L_parse G σ o f 0 (ct_F_parse_f G σ s1 s2 (wi (xa σ, s2) 24 0 0).2 t tf c25 (ct24_T_empty_ G (xa σ, s2))), ?_, ⟨by decide, by decide⟩, ⟨by decide, by decide⟩, ez, ⟨0, rfl, fun _ => rfl⟩, ⟨g, T, n, m2.w, m2.t, m2.c, m2.m, m2.ic, m2.im, m2.st, ⟨0, by omega, rfl, rfl, fun j hj => by omega⟩, m2.u⟩, ex⟩
      refine Ct.of (by decide +kernel) (Nat.le_of_ble_eq_true rfl) (fun K X => ?_)
      exact sg_M_parse_0_ffr X τ _ q1 q2 t' rfl tp c43 ⟨rfl, rfl⟩
  · left
    refine ⟨_, 1, _, s1, .int 0, (wi (xa τ, q1) 0 0 1).2, hz_L_parse_1 G σ o f (cz_F_parse_z1 G σ s1 z), ?_, ⟨by decide, by decide⟩, ⟨by decide, by decide⟩, rfl, ⟨_, rfl, fun q => absurd q (by decide)⟩, ⟨g, T, n, i2.z 1⟩, xn_fr h3⟩
    refine Ct.of (by decide +kernel) (Nat.le_of_ble_eq_true rfl) (fun K X => ?_)
    exact sg_M_parse_0_tr X τ _ q1 t' (by rw [n_0, n_eq (by omega) (by omega)]; exact hk) ⟨rfl, rfl⟩
end OO
