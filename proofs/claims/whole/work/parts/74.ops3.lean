section OO
variable {g : Gr} {T : Nat → Int} {n : Nat} {σ τ : St}
theorem i32_ls {x : Int32} {a : Int} (h1 : -2147483648 ≤ a) (h2 : a + 1 < 2147483648) : x ≤ sI a ↔ x < sI (a + 1) := by
  rw [Int32.le_iff_toInt_le, Int32.lt_iff_toInt_lt, sI_toInt h1 (by omega), sI_toInt (by omega) h2]
  omega
theorem o_token (G : GG) (o : Nat) (f : Nat → Int64) (x : Int32) (h : Rel g T n σ τ) : OpH σ τ 4 (fun rH k5 f' s => CtH y_L_token c_L_token 4 (some .int) hs_L_token rH G [.ref (xa σ 0), .int x, .ref o] (ow G o f :: WC G σ) (eqp (some (.int k5)) (ow G o f' :: WC G (xa σ, s)))) (fun v q => Ct y_M_token c_M_token 2 (some .int) rm_M_token G [.ref (xa τ 0), .int x] (WM G τ) (eqp (some v) (WM G (xa τ, q)))) vI := by
  have h60 := h.t.1
  have e1 : xi σ 10 0 = nI n := h.ic.1
  have e2 : xi τ 0 3 = nI n := h.im.1
  by_cases c1 : x < 0
  · exact ⟨_, 1, _, σ.2, _, (wi τ 0 0 1).2, hz_L_token_1 G σ o f x (cz_F_token_t G σ x c1), ct_M_token_t G τ x c1, ⟨by decide, by decide⟩, ⟨by decide, by decide⟩, rfl, ⟨_, rfl, fun q => absurd q (by decide)⟩, ⟨g, T, n, h.z 1⟩, rfl⟩
  · by_cases c2 : x < 32
    · have c8 : x ≤ 31 := i32_le31.mpr c2
      by_cases c3 : n = 60
      · exact ⟨_, 2, _, σ.2, _, (wi τ 0 0 2).2, hz_L_token_2 G σ o f x (cz_F_token_ftf G σ x c1 c2 (by rw [e1, c3]; rfl)), ct_M_token_ftf G τ x c1 c8 (by rw [e2, c3]; rfl), ⟨by decide, by decide⟩, ⟨by decide, by decide⟩, rfl, ⟨_, rfl, fun q => absurd q (by decide)⟩, ⟨g, T, n, h.z 2⟩, rfl⟩
      · have c60 : ¬ nI n = 60 := by rw [show (60 : Int32) = nI 60 from rfl, n_eq (by omega) (by omega)]; exact c3
        obtain ⟨y, hy, ey⟩ := sym_of (x := x) (fun q => c1 (Int32.lt_trans q (by decide))) c2
        have hy0 : 0 ≤ y := by
          have := Int32.not_lt.mp c1
          rw [Int32.le_iff_toInt_le, ey, sI_toInt (by omega) (by omega)] at this
          simpa using this
        refine ⟨_, 0, _, (wi (wi σ 11 n x) 10 0 (xi σ 10 0 + 1)).2, _, (wi (wi (wi τ 0 0 0) 7 n x) 0 3 (xi τ 0 3 + 1)).2, hn_L_token G σ o f x _ (ct_F_token_ftt G σ x _ _ c1 c2 (by rw [e1]; exact c60) (ct_I_add_ G σ x n e1 (by omega))), ct_M_token_ftt G τ x n c1 c8 (by rw [e2]; exact c60) e2 (by omega), ⟨by decide, by decide⟩, ⟨by decide, by decide⟩, rfl, ⟨xi τ 0 3 + 1, rfl, fun _ => by rw [e2, ← e1]; rfl⟩, ⟨g, updZ T n y, n + 1, ?_⟩, rfl⟩
        refine ⟨h.w, ⟨by omega, fun i => ?_⟩, h.c, h.m, ⟨?_, updZ_r h.ic.2 n y ey⟩, ⟨?_, updZ_r h.im.2 n y ey⟩, h.st, h.tr, h.u⟩
        · unfold updZ; split
          · exact ⟨hy0, hy.2⟩
          · exact h.t.2 i
        · show xi σ 10 0 + 1 = _; rw [e1, n_s]
        · show xi τ 0 3 + 1 = _; rw [e2, n_s]
    · exact ⟨_, 1, _, σ.2, _, (wi τ 0 0 1).2, hz_L_token_1 G σ o f x (cz_F_token_ff G σ x c1 c2), ct_M_token_ff G τ x c1 (fun q => c2 (i32_le31.mp q)), ⟨by decide, by decide⟩, ⟨by decide, by decide⟩, rfl, ⟨_, rfl, fun q => absurd q (by decide)⟩, ⟨g, T, n, h.z 1⟩, rfl⟩
theorem o_keep (G : GG) (o : Nat) (f : Nat → Int64) (x : Int32) (h : Rel g T n σ τ) : OpH σ τ 3 (fun rH k5 f' s => CtH y_L_keep c_L_keep 3 (some .int) hs_L_keep rH G [.ref (xa σ 0), .int x] (ow G o f :: WC G σ) (eqp (some (.int k5)) (ow G o f' :: WC G (xa σ, s)))) (fun _ q => Ct y_M_keep c_M_keep 2 none rm_M_keep G [.ref (xa τ 0), .int x] (WM G τ) (eqp none (WM G (xa τ, q)))) (fun _ _ _ => True) := by
  have h60 := h.t.1
  have e1 : xi σ 10 0 = nI n := h.ic.1
  have e2 : xi τ 0 3 = nI n := h.im.1
  have hz : Rel g T n σ (wi (wi τ 0 0 1) 0 3 (xi τ 0 3)) := ⟨h.w, h.t, h.c, h.m, h.ic, h.im, h.st, h.tr, h.u⟩
  by_cases c1 : x < 0
  · exact ⟨_, 1, _, σ.2, .int 0, (wi (wi τ 0 0 1) 0 3 (xi τ 0 3)).2, hz_L_keep_1 G σ o f x (cz_F_keep_t G σ x c1), ct_M_keep_t G τ x c1, ⟨by decide, by decide⟩, ⟨by decide, by decide⟩, rfl, trivial, ⟨g, T, n, hz⟩, rfl⟩
  · by_cases c2 : x ≤ nI n
    · obtain ⟨m, hm, em⟩ := nat_of (Int32.not_lt.mp c1)
      have hmn : m ≤ n := by rw [em, n_le hm (by omega)] at c2; exact c2
      refine ⟨_, 0, _, (wi σ 10 0 x).2, .int 0, (wi (wi τ 0 0 0) 0 3 x).2, hn_L_keep G σ o f x (ct_F_keep_ft G σ x _ c1 (by rw [e1]; exact c2) (ct_I_cut_ G σ x)), ct_M_keep_ft G τ x c1 (by rw [e2]; exact c2), ⟨by decide, by decide⟩, ⟨by decide, by decide⟩, rfl, trivial, ⟨g, T, m, h.w, ⟨by omega, h.t.2⟩, h.c, h.m, ⟨em, h.ic.2⟩, ⟨em, h.im.2⟩, h.st, h.tr, h.u⟩, rfl⟩
    · exact ⟨_, 1, _, σ.2, .int 0, (wi (wi τ 0 0 1) 0 3 (xi τ 0 3)).2, hz_L_keep_1 G σ o f x (cz_F_keep_ff G σ x c1 (by rw [e1]; exact c2)), ct_M_keep_ff G τ x c1 (by rw [e2]; exact c2), ⟨by decide, by decide⟩, ⟨by decide, by decide⟩, rfl, trivial, ⟨g, T, n, hz⟩, rfl⟩
theorem o_node (G : GG) (o : Nat) (f : Nat → Int64) (x z : Int32) (h : Rel g T n σ τ) : OpH σ τ 5 (fun rH k5 f' s => CtH y_L_node c_L_node 5 (some .int) hs_L_node rH G [.ref (xa σ 0), .int x, .int z, .ref o] (ow G o f :: WC G σ) (eqp (some (.int k5)) (ow G o f' :: WC G (xa σ, s)))) (fun v q => Ct y_M_node c_M_node 3 (some .int) rm_M_node G [.ref (xa τ 0), .int x, .int z] (WM G τ) (eqp (some v) (WM G (xa τ, q)))) vI := by
  obtain ⟨N, hN, e1, e2, e3⟩ := h.tr
  by_cases c1 : x < 0
  · exact ⟨_, 1, _, σ.2, _, (wi τ 0 0 1).2, hz_L_node_1 G σ o f x z (cz_F_node_t G σ x z c1), ct_M_node_t G τ x z c1, ⟨by decide, by decide⟩, ⟨by decide, by decide⟩, rfl, ⟨_, rfl, fun q => absurd q (by decide)⟩, ⟨g, T, n, h.z 1⟩, rfl⟩
  · by_cases c2 : x < nI N
    · have c2s : x < xi σ 24 0 := by rw [e1]; exact c2
      have c2t : x < xi τ 0 4 := by rw [e2]; exact c2
      by_cases c3 : z < 0
      · exact ⟨_, 2, _, σ.2, _, (wi τ 0 0 2).2, hz_L_node_2 G σ o f x z (cz_F_node_ftt G σ x z c1 c2s c3), ct_M_node_ftt G τ x z c1 c2t c3, ⟨by decide, by decide⟩, ⟨by decide, by decide⟩, rfl, ⟨_, rfl, fun q => absurd q (by decide)⟩, ⟨g, T, n, h.z 2⟩, rfl⟩
      · by_cases c4 : z < 7
        · obtain ⟨a, ha, rfl⟩ := nat_of (Int32.not_lt.mp c1)
          obtain ⟨b, hb, rfl⟩ := nat_of (Int32.not_lt.mp c3)
          have c24 : nI b ≤ 6 := (i32_ls (a := 6) (by omega) (by omega)).mpr c4
          rw [n_lt ha (by omega)] at c2
          rw [show (7 : Int32) = nI 7 from rfl, n_lt hb (by omega)] at c4
          have c4' : nI b < 7 := by rw [show (7 : Int32) = nI 7 from rfl, n_lt hb (by omega)]; exact c4
          refine ⟨_, 0, _, σ.2, _, (wi τ 0 0 0).2, hn_L_node G σ o f (nI a) (nI b) _ (ct_F_node_ftft G σ (nI a) (nI b) (7 * a + b) c1 c2s c3 c4' (by rw [show (7 : Int32) = nI 7 from rfl, n_mul, n_add, Nat.mul_comm]) (by omega)), ct_M_node_ftft G τ (nI a) (nI b) (7 * a + b) c1 c2t c3 c24 (by rw [show (7 : Int32) = nI 7 from rfl, n_mul, n_add]) (by omega), ⟨by decide, by decide⟩, ⟨by decide, by decide⟩, rfl, ⟨xi τ 16 (7 * a + b), rfl, fun _ => ?_⟩, ⟨g, T, n, h.z 0⟩, rfl⟩
          show Int32.toInt64 (xi σ 25 (7 * a + b)) = _
          rw [e3 _ (by omega)]
        · exact ⟨_, 2, _, σ.2, _, (wi τ 0 0 2).2, hz_L_node_2 G σ o f x z (cz_F_node_ftff G σ x z c1 c2s c3 c4), ct_M_node_ftff G τ x z c1 c2t c3 (fun q => c4 ((i32_ls (a := 6) (by omega) (by omega)).mp q)), ⟨by decide, by decide⟩, ⟨by decide, by decide⟩, rfl, ⟨_, rfl, fun q => absurd q (by decide)⟩, ⟨g, T, n, h.z 2⟩, rfl⟩
    · exact ⟨_, 1, _, σ.2, _, (wi τ 0 0 1).2, hz_L_node_1 G σ o f x z (cz_F_node_ff G σ x z c1 (by rw [e1]; exact c2)), ct_M_node_ff G τ x z c1 (by rw [e2]; exact c2), ⟨by decide, by decide⟩, ⟨by decide, by decide⟩, rfl, ⟨_, rfl, fun q => absurd q (by decide)⟩, ⟨g, T, n, h.z 1⟩, rfl⟩
theorem o_count (G : GG) (o : Nat) (f : Nat → Int64) (x : Int32) (h : Rel g T n σ τ) : OpH σ τ 4 (fun rH k5 f' s => CtH y_L_count c_L_count 4 (some .int) hs_L_count rH G [.ref (xa σ 0), .int x, .ref o] (ow G o f :: WC G σ) (eqp (some (.int k5)) (ow G o f' :: WC G (xa σ, s)))) (fun v q => Ct y_M_count c_M_count 2 (some .int) rm_M_count G [.ref (xa τ 0), .int x] (WM G τ) (eqp (some v) (WM G (xa τ, q)))) vI := by
  have h16 := h.w.r
  by_cases c1 : x < 0
  · exact ⟨_, 1, _, σ.2, _, (wi τ 0 0 1).2, hz_L_count_1 G σ o f x (cz_F_count_t G σ x c1), ct_M_count_t G τ x c1, ⟨by decide, by decide⟩, ⟨by decide, by decide⟩, rfl, ⟨_, rfl, fun q => absurd q (by decide)⟩, ⟨g, T, n, h.z 1⟩, rfl⟩
  · by_cases c2 : x < 18
    · have c8 : x ≤ 17 := (i32_ls (a := 17) (by omega) (by omega)).mpr c2
      by_cases c3 : x = 0
      · exact ⟨_, 0, _, σ.2, _, (wi τ 0 0 0).2, hn_L_count G σ o f x _ (ct_F_count_ftf G σ x c1 c2 c3), ct_M_count_ftf G τ x c1 c8 c3, ⟨by decide, by decide⟩, ⟨by decide, by decide⟩, rfl, ⟨xi τ 0 1, rfl, fun _ => by show Int32.toInt64 (xi σ 1 0) = _; rw [h.c.1, h.m.1]⟩, ⟨g, T, n, h.z 0⟩, rfl⟩
      · by_cases c4 : x = 1
        · exact ⟨_, 0, _, σ.2, _, (wi τ 0 0 0).2, hn_L_count G σ o f x _ (ct_F_count_fttf G σ x c1 c2 c3 c4), ct_M_count_fttf G τ x c1 c8 c3 c4, ⟨by decide, by decide⟩, ⟨by decide, by decide⟩, rfl, ⟨xi τ 0 3, rfl, fun _ => by show Int32.toInt64 (xi σ 10 0) = _; rw [h.ic.1, h.im.1]⟩, ⟨g, T, n, h.z 0⟩, rfl⟩
        · obtain ⟨a, ha, rfl⟩ := nat_of (Int32.not_lt.mp c1)
          have c2' := c2
          rw [show (18 : Int32) = nI 18 from rfl, n_lt ha (by omega)] at c2'
          have c3' := c3
          rw [n_0, n_eq ha (by omega)] at c3'
          have c4' := c4
          rw [n_1, n_eq ha (by omega)] at c4'
          obtain ⟨r, rfl⟩ : ∃ r, a = r + 2 := ⟨a - 2, by omega⟩
          have er : nI (r + 2) - 2 = nI r := by rw [show (2 : Int32) = nI 2 from rfl, n_sub (by omega)]; rfl
          by_cases c5 : gR g ≤ r
          · refine ⟨_, 0, _, σ.2, _, (wi τ 0 0 0).2, hn_L_count G σ o f _ _ (ct_F_count_fttt G σ _ r c1 c2 c3 c4 er (by omega)), ct_M_count_ftttt G τ _ c1 c8 c3 c4 (by rw [er, h.m.1, n_le (by omega) (by omega)]; exact c5), ⟨by decide, by decide⟩, ⟨by decide, by decide⟩, rfl, ⟨0, rfl, fun _ => ?_⟩, ⟨g, T, n, h.z 0⟩, rfl⟩
            show Int32.toInt64 (altC σ r) = _
            unfold altC
            rw [if_pos (by rw [h.c.1, n_le (by omega) (by omega)]; exact c5)]
          · refine ⟨_, 0, _, σ.2, _, (wi τ 0 0 0).2, hn_L_count G σ o f _ _ (ct_F_count_fttt G σ _ r c1 c2 c3 c4 er (by omega)), ct_M_count_ftttf G τ _ r c1 c8 c3 c4 (by rw [er, h.m.1, n_le (by omega) (by omega)]; exact c5) er (by omega), ⟨by decide, by decide⟩, ⟨by decide, by decide⟩, rfl, ⟨xi τ 1 r, rfl, fun _ => ?_⟩, ⟨g, T, n, h.z 0⟩, rfl⟩
            show Int32.toInt64 (altC σ r) = _
            rw [altC_of h.w h.c (by omega), h.m.2.1 r (by omega)]
    · exact ⟨_, 1, _, σ.2, _, (wi τ 0 0 1).2, hz_L_count_1 G σ o f x (cz_F_count_ff G σ x c1 c2), ct_M_count_ff G τ x c1 (fun q => c2 ((i32_ls (a := 17) (by omega) (by omega)).mp q)), ⟨by decide, by decide⟩, ⟨by decide, by decide⟩, rfl, ⟨_, rfl, fun q => absurd q (by decide)⟩, ⟨g, T, n, h.z 1⟩, rfl⟩
/-! without exceptions -/
def OpD (σ τ : St) (TC TM : Int32 → Sq → Prop) : Prop := ∃ b s q, TC b s ∧ TM b q ∧ (∃ g T n, Rel g T n (xa σ, s) (xa τ, q)) ∧ xn (xa σ, s) = xn σ
theorem o_clear (G : GG) (h : Rel g T n σ τ) : OpD σ τ (fun b s => Ct y_F_clear c_F_clear 1 (some .int) rm_F_clear G [.ref (xa σ 0)] (WC G σ) (eqp (some (.int b)) (WC G (xa σ, s)))) (fun b q => Ct y_M_clear c_M_clear 2 (some .int) rm_M_clear G [.ref (xa τ 0)] (WM G τ) (eqp (some (.int b)) (WM G (xa τ, q)))) := by
  refine ⟨nI (gR g), (wi (wi σ 5 0 0) 1 0 0).2, (wi (wi τ 0 0 0) 0 1 0).2, ?_, ?_, ⟨(0, g.2), T, n, ⟨by show 0 ≤ 16; omega, h.w.2⟩, h.t, ⟨rfl, h.c.2⟩, ⟨rfl, h.m.2⟩, h.ic, h.im, fun q => absurd rfl q, h.tr, h.u⟩, rfl⟩
  · rw [← h.c.1]; exact ct_F_clear_ G σ _ _ _ (ct_S_outdate_ G σ) (ct_G_loseRules_ G (wi σ 5 0 0))
  · rw [← h.m.1]; exact ct_M_clear_ G τ
theorem o_nodes (G : GG) (h : Rel g T n σ τ) : OpD σ τ (fun b s => Ct y_F_nodes c_F_nodes 1 (some .int) rm_F_nodes G [.ref (xa σ 0)] (WC G σ) (eqp (some (.int b)) (WC G (xa σ, s)))) (fun b q => Ct y_M_nodes c_M_nodes 1 (some .int) rm_M_nodes G [.ref (xa τ 0)] (WM G τ) (eqp (some (.int b)) (WM G (xa τ, q)))) := by
  obtain ⟨N, hN, e1, e2, e3⟩ := h.tr
  refine ⟨nI N, σ.2, (wi τ 0 0 0).2, ?_, ?_, ⟨g, T, n, h.z 0⟩, rfl⟩
  · rw [← e1]; exact ct_F_nodes_ G σ
  · rw [← e2]; exact ct_M_nodes_ G τ
theorem o_fault (G : GG) (h : Rel g T n σ τ) : OpD σ τ (fun b s => Ct y_F_fault c_F_fault 1 (some .int) rm_F_fault G [.ref (xa σ 0)] (WC G σ) (eqp (some (.int b)) (WC G (xa σ, s)))) (fun b q => Ct y_M_fault c_M_fault 1 (some .int) rm_M_fault G [.ref (xa τ 0)] (WM G τ) (eqp (some (.int b)) (WM G (xa τ, q)))) := by
  obtain ⟨kd, v, s, h1, h2, h3, h4, h5, h6, h7, t⟩ := r_bring G h
  obtain ⟨kd', v', q, i1, i2, i3, i4, i5, t'⟩ := r_fault G (h2.z 0)
  obtain ⟨rfl, rfl⟩ := h1.uniq i1
  refine ⟨nI kd, s, q, ?_, ct_M_fault_ G τ _ q t', ⟨g, T, n, i2⟩, xn_fr h3⟩
  rw [← h5]; exact ct_F_fault_ G σ s t
theorem o_faulty (G : GG) (h : Rel g T n σ τ) : OpD σ τ (fun b s => Ct y_F_faulty c_F_faulty 1 (some .int) rm_F_faulty G [.ref (xa σ 0)] (WC G σ) (eqp (some (.int b)) (WC G (xa σ, s)))) (fun b q => Ct y_M_faulty c_M_faulty 1 (some .int) rm_M_faulty G [.ref (xa τ 0)] (WM G τ) (eqp (some (.int b)) (WM G (xa τ, q)))) := by
  obtain ⟨kd, v, s, h1, h2, h3, h4, h5, h6, h7, t⟩ := r_bring G h
  obtain ⟨kd', v', q, i1, i2, i3, i4, i5, t'⟩ := r_fault G (h2.z 0)
  obtain ⟨rfl, rfl⟩ := h1.uniq i1
  have hb := h1.bd
  refine ⟨sI v, s, q, ?_, ?_, ⟨g, T, n, i2⟩, xn_fr h3⟩
  · rw [← h6]; exact ct_F_faulty_ G σ s t
  · by_cases c : kd ≤ 1
    · have ev : v = -1 := by
        rcases h1 with ⟨_, _, q⟩ | ⟨_, _, q, _⟩ | ⟨_, _, _, q, _⟩ | ⟨_, _, _, _, q, _⟩ | ⟨_, _, _, _, _, q⟩
        · exact q
        · omega
        · omega
        · omega
        · exact q
      rw [ev]
      exact ct_M_faulty_t G τ _ q t' (by rw [n_1, n_le (by omega) (by omega)]; exact c)
    · have := ct_M_faulty_f G τ _ q t' (by rw [n_1, n_le (by omega) (by omega)]; exact c)
      rw [i4] at this; exact this
end OO
