theorem k_fF_done {K : KX} {G : GG} {w0 : va_W} {post : PostT} (X : Bd K G w0 "FirstTrees$Study" c_S_findFault 3 none rm_S_findFault) {σ : St} {kf c : Nat} (v : Int) (h0 : kf ≠ 0) (h5 : kf < 5) (hc : c < 100)
    (hp : post none (WC G (wi (wi σ 5 1 (nI kf)) 5 2 (sI v)))) : Lb K G w0 (Qe K G w0 post rm_S_findFault) 3 26 [(0, .ref (xa σ 5)), (1, .int (nI c))] [] (WC G (wi (wi σ 5 1 (nI kf)) 5 2 (sI v))) 0 0 := by
  by_cases c28 : (4 : Int32) < nI c
  · exact sg_S_findFault_26_tr X (wi (wi σ 5 1 (nI kf)) 5 2 (sI v)) _ c28 hp
  · refine sg_S_findFault_26_ftr X (wi (wi σ 5 1 (nI kf)) 5 2 (sI v)) _ c28 ?_ hp
    show ¬ nI kf = 0
    rw [show (0 : Int32) = nI 0 from rfl, n_eq (by omega) (by omega)]; exact h0
theorem k_fF_kind (G : GG) {g : Gr} {σ : St} (hw : WF g) (hg : GC g σ) (hL : ∀ x, x < gR g → ∀ i, tc (xi σ 6 x) i = true ↔ Lf g x i) {kd : Nat} (hk : kd < 5) (hk0 : 2 ≤ kd) :
    ∃ kf v, ((kf = 0 ∧ v = -1 ∧ NoF (Fk g kd) (gR g)) ∨ (kf = kd ∧ ¬ NoF (Fk g kd) (gR g) ∧ Low (Fk g kd) 0 (gR g) v)) ∧ ∀ q, (fun q : KQ => Bd q.1 G q.2.1 "FirstTrees$Study" c_S_findFault 3 none rm_S_findFault) q →
      Lb q.1 G q.2.1 q.2.2 3 26 [(0, .ref (xa σ 5)), (1, .int (nI (kd + 1)))] [] (WC G (wi (wi σ 5 1 (nI kf)) 5 2 (sI v))) 0 0 →
      Lb q.1 G q.2.1 q.2.2 3 26 [(0, .ref (xa σ 5)), (1, .int (nI kd))] [] (WC G (wi (wi σ 5 1 0) 5 2 (sI (-1)))) 0 0 := by
  obtain ⟨kf, v, h1, h2⟩ := k_fF_rule G hw hg hL hk hk0
  refine ⟨kf, v, h1, fun q X k => ?_⟩
  refine sg_S_findFault_26_ff48 X (wi (wi σ 5 1 0) 5 2 (sI (-1))) _ (by rw [show (4 : Int32) = nI 4 from rfl, n_lt (by omega) (by omega)]; omega) rfl ?_
  rw [show xi (wi (wi σ 5 1 0) 5 2 (sI (-1))) 1 0 = xi σ 1 0 from rfl, hg.1, dI_n]
  refine h2 q X ?_
  refine sg_S_findFault_48_t26 X (wi (wi σ 5 1 (nI kf)) 5 2 (sI v)) _ _ dI_0 ?_
  rw [n_s]; exact k
theorem k_findFault (G : GG) {g : Gr} {σ : St} (hw : WF g) (hg : GC g σ) (hL : ∀ x, x < gR g → ∀ i, tc (xi σ 6 x) i = true ↔ Lf g x i) :
    ∃ kd v, FaultIs g kd v ∧ Ct y_S_findFault c_S_findFault 3 none rm_S_findFault G [.ref (xa σ 5)] (WC G σ) (eqp none (WC G (wi (wi σ 5 1 (nI kd)) 5 2 (sI v)))) := by
  have h16 := hw.r
  by_cases c : gR g = 0
  · refine ⟨1, -1, .inl ⟨c, rfl, rfl⟩, ?_⟩
    refine Ct.of (by decide +kernel) (Nat.le_of_ble_eq_true rfl) (fun K X => ?_)
    refine sg_S_findFault_0_f26 X σ (by rw [hg.1, c]; rfl) ?_
    rw [show wi (wi σ 5 1 1) 5 2 (-1) = wi (wi σ 5 1 (nI 1)) 5 2 (sI (-1)) from rfl, show (2 : Int32) = nI 2 from rfl]
    refine k_fF_done X (σ := σ) (kf := 1) (c := 2) (-1) (by decide) (by decide) (by decide) ?_
    exact ⟨rfl, rfl⟩
  · have c8 : ¬ xi σ 1 0 = 0 := by rw [hg.1, show (0 : Int32) = nI 0 from rfl, n_eq (by omega) (by omega)]; exact c
    obtain ⟨k2, v2, h2, j2⟩ := k_fF_kind G hw hg hL (kd := 2) (by decide) (by decide)
    rcases h2 with ⟨e2, e2', n2⟩ | ⟨e2, n2, l2⟩
    · subst e2; subst e2'
      obtain ⟨k3, v3, h3, j3⟩ := k_fF_kind G hw hg hL (kd := 3) (by decide) (by decide)
      rcases h3 with ⟨e3, e3', n3⟩ | ⟨e3, n3, l3⟩
      · subst e3; subst e3'
        obtain ⟨k4, v4, h4, j4⟩ := k_fF_kind G hw hg hL (kd := 4) (by decide) (by decide)
        rcases h4 with ⟨e4, e4', n4⟩ | ⟨e4, n4, l4⟩
        · subst e4; subst e4'
          refine ⟨0, -1, .inr (.inr (.inr (.inr ⟨c, n2, n3, n4, rfl, rfl⟩))), ?_⟩
          refine Ct.of (by decide +kernel) (Nat.le_of_ble_eq_true rfl) (fun K X => ?_)
          refine sg_S_findFault_0_t26 X σ c8 (j2 (K, _, _) X (j3 (K, _, _) X (j4 (K, _, _) X ?_)))
          exact sg_S_findFault_26_tr X (wi (wi σ 5 1 (nI 0)) 5 2 (sI (-1))) _ (by decide) ⟨rfl, rfl⟩
        · subst e4
          refine ⟨4, v4, .inr (.inr (.inr (.inl ⟨c, n2, n3, n4, rfl, l4⟩))), ?_⟩
          refine Ct.of (by decide +kernel) (Nat.le_of_ble_eq_true rfl) (fun K X => ?_)
          refine sg_S_findFault_0_t26 X σ c8 (j2 (K, _, _) X (j3 (K, _, _) X (j4 (K, _, _) X ?_)))
          exact k_fF_done X (σ := σ) (kf := 4) v4 (by decide) (by decide) (by decide) ⟨rfl, rfl⟩
      · subst e3
        refine ⟨3, v3, .inr (.inr (.inl ⟨c, n2, n3, rfl, l3⟩)), ?_⟩
        refine Ct.of (by decide +kernel) (Nat.le_of_ble_eq_true rfl) (fun K X => ?_)
        refine sg_S_findFault_0_t26 X σ c8 (j2 (K, _, _) X (j3 (K, _, _) X ?_))
        exact k_fF_done X (σ := σ) (kf := 3) v3 (by decide) (by decide) (by decide) ⟨rfl, rfl⟩
    · subst e2
      refine ⟨2, v2, .inr (.inl ⟨c, n2, rfl, l2⟩), ?_⟩
      refine Ct.of (by decide +kernel) (Nat.le_of_ble_eq_true rfl) (fun K X => ?_)
      refine sg_S_findFault_0_t26 X σ c8 (j2 (K, _, _) X ?_)
      exact k_fF_done X (σ := σ) (kf := 2) v2 (by decide) (by decide) (by decide) ⟨rfl, rfl⟩
