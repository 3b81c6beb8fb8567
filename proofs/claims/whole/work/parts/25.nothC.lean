/-! the component's findNothing -/
/-- the component's bits of `nothing` -/
abbrev bN (σ : St) : Nat → Bool := fun i => tc (xi σ 5 3) i
theorem k_symN (G : GG) {g : Gr} {σ : St} {z : Int} (h1 : -16 ≤ z) (h2 : z ≤ 31) : Ct y_S_symbolIsNothing c_S_symbolIsNothing 2 (some .boolean) rm_S_symbolIsNothing G [.ref (xa σ 5), .int (sI z)] (WC G σ) (eqp (some (.int (pI (z < 0 ∧ bN σ (rl z) = true)))) (WC G σ)) := by
  by_cases c : z < 0
  · have e0 := tok_0 h1 h2 c
    have e1 := rl_sI c
    have h16 : rl z < 16 := by unfold rl; omega
    by_cases d : bN σ (rl z) = true
    · rw [pI_t ⟨c, d⟩]
      refine ct_S_symbolIsNothing_ff G σ _ e0 ?_
      rw [e1, hasB_eq (by omega), tb_i2l (by omega), if_pos d]; decide
    · rw [pI_f (fun q => d q.2)]
      refine ct_S_symbolIsNothing_ft G σ _ e0 ?_
      rw [e1, hasB_eq (by omega), tb_i2l (by omega), if_neg d]
  · rw [pI_f (fun q => c q.1)]
    refine ct_S_symbolIsNothing_t G σ _ ?_
    rw [tok_1 h1 h2 c]; decide
theorem k_rowN_loop {K : KX} {G : GG} {w0 : va_W} {post : PostT} (X : Bd K G w0 "FirstTrees$Study" c_S_rowIsNothing 3 (some .boolean) rm_S_rowIsNothing) {g : Gr} {σ : St} (hw : WF g) (hg : GC g σ) {row : Nat} (hr : row < 128)
    (hp : post (some (.int (pI (rowN g (fun y => bN σ y = true) row 0)))) (WC G σ)) (m : Nat) : ∀ k, k + m = gL g row → (∀ j, j < k → gY g row j < 0 ∧ bN σ (rl (gY g row j)) = true) →
    Lb K G w0 (Qe K G w0 post rm_S_rowIsNothing) 3 2 [(0, .ref (xa σ 5)), (1, .int (nI row)), (2, .int (nI k))] [] (WC G σ) 0 0 := by
  have hl := hw.l row
  induction m with
  | zero =>
    intro k hk hd
    refine sg_S_rowIsNothing_2_tr X σ _ _ row rfl hr ?_ ?_
    · rw [hg.2.2.1 row hr, n_le (by omega) (by omega)]; omega
    · have q : rowN g (fun y => bN σ y = true) row 0 := fun j _ hj => hd j (by omega)
      rw [pI_t q] at hp; exact hp
  | succ m ih =>
    intro k hk hd
    have hy := hw.y row k
    have e21 := n8 row k
    have c11 : ¬ xi σ 3 row ≤ nI k := by rw [hg.2.2.1 row hr, n_le (by omega) (by omega)]; omega
    have ek : xi σ 4 (8 * row + k) = sI (gY g row k) := hg.2.2.2 _ (by omega)
    have t := k_symN G (g := g) (σ := σ) hy.1 hy.2
    rw [← ek] at t
    by_cases c : gY g row k < 0 ∧ bN σ (rl (gY g row k)) = true
    · refine sg_S_rowIsNothing_2_ft2 X σ _ _ row (8 * row + k) _ rfl hr c11 e21 (by omega) t (by rw [pI_0]; exact fun q => q c) ?_
      rw [n_s]
      refine ih (k + 1) (by omega) ?_
      intro j hj
      by_cases q : j = k
      · rw [q]; exact c
      · exact hd j (by omega)
    · refine sg_S_rowIsNothing_2_ffr X σ _ _ row (8 * row + k) _ rfl hr c11 e21 (by omega) t (by rw [pI_0]; exact c) ?_
      rw [pI_f (fun q => c (q k (by omega) (by omega)))] at hp; exact hp
theorem k_rowN (G : GG) {g : Gr} {σ : St} (hw : WF g) (hg : GC g σ) {row : Nat} (hr : row < 128) :
    Ct y_S_rowIsNothing c_S_rowIsNothing 3 (some .boolean) rm_S_rowIsNothing G [.ref (xa σ 5), .int (nI row)] (WC G σ) (eqp (some (.int (pI (rowN g (fun y => bN σ y = true) row 0)))) (WC G σ)) := by
  refine Ct.of (by decide +kernel) (Nat.le_of_ble_eq_true rfl) (fun K X => ?_)
  refine sg_S_rowIsNothing_0_2 X σ _ ?_
  exact k_rowN_loop X hw hg hr ⟨rfl, rfl⟩ _ 0 (Nat.zero_add _) (fun j hj => absurd hj (Nat.not_lt_zero j))
