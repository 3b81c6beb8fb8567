/-! the reference's findNothing -/
abbrev bF (f : Nat → Int32) : Nat → Bool := fun i => decide (i < 16) && decide (¬ f i = 0)
abbrev bM (τ : St) : Nat → Bool := bF (xi τ 4)
theorem nar_pI (P : Prop) : narrow .boolean (.int (pI P)) = .int (pI P) := by
  by_cases h : P
  · rw [pI_t h]; rfl
  · rw [pI_f h]; rfl
theorem m_rowN_loop {K : KX} {G : GG} {w0 : va_W} {post : PostT} (X : Bd K G w0 "FirstTreesModel" c_M_rowIsNothing 7 (some .boolean) rm_M_rowIsNothing) {g : Gr} {τ : St} (hw : WF g) (hg : GM g τ) {r a f : Nat} (hr : 8 * r + a < 128)
    (hp : post (some (.int (pI (rowN g (fun y => bM τ y = true) (8 * r + a) f)))) (WM G τ)) (m : Nat) : ∀ k (P : Prop), k + m = max f (gL g (8 * r + a)) → (P ↔ ∀ j, f ≤ j → j < k → j < gL g (8 * r + a) → gY g (8 * r + a) j < 0 ∧ bM τ (rl (gY g (8 * r + a) j)) = true) → f ≤ k → f < 10 →
    Lb K G w0 (Qe K G w0 post rm_M_rowIsNothing) 7 6 [(0, .ref (xa τ 0)), (1, .int (nI r)), (2, .int (nI a)), (3, .int (nI f)), (4, .int (pI P)), (5, .int (nI k))] [] (WM G τ) 0 0 := by
  have hl := hw.l (8 * r + a)
  have e11 := m8 r a
  induction m with
  | zero =>
    intro k P hk hd hf hf2
    refine sg_M_rowIsNothing_6_tr X τ _ _ _ _ _ (8 * r + a) e11 hr ?_ (nar_pI P) ?_
    · rw [hg.2.2.1 _ hr, n_le (by omega) (by omega)]; omega
    · have q : P ↔ rowN g (fun y => bM τ y = true) (8 * r + a) f := by
        rw [hd]; exact ⟨fun z j h1 h2 => z j h1 (by omega) h2, fun z j h1 _ h2 => z j h1 h2⟩
      rw [propext q]; exact hp
  | succ m ih =>
    intro k P hk hd hf hf2
    have hy := hw.y (8 * r + a) k
    have h16 := hw.rl (8 * r + a) k
    have e22 := m64 r a k
    have c14 : ¬ xi τ 2 (8 * r + a) ≤ nI k := by rw [hg.2.2.1 _ hr, n_le (by omega) (by omega)]; omega
    have ek : xi τ 3 (8 * (8 * r + a) + k) = sI (gY g (8 * r + a) k) := hg.2.2.2 _ (by omega)
    have nx : ∀ P' : Prop, (P' ↔ P ∧ gY g (8 * r + a) k < 0 ∧ bM τ (rl (gY g (8 * r + a) k)) = true) → (P' ↔ ∀ j, f ≤ j → j < k + 1 → j < gL g (8 * r + a) → gY g (8 * r + a) j < 0 ∧ bM τ (rl (gY g (8 * r + a) j)) = true) := by
      intro P' e
      rw [e, hd]
      constructor
      · intro z j h1 h2 h3
        by_cases q : j = k
        · rw [q]; exact z.2
        · exact z.1 j h1 (by omega) h3
      · intro z
        exact ⟨fun j h1 h2 h3 => z j h1 (by omega) h3, z k hf (by omega) (by omega)⟩
    by_cases c29 : P
    · by_cases c37 : gY g (8 * r + a) k < 0
      · have e37 : ¬ b2i (decide (xi τ 3 (8 * (8 * r + a) + k) < 0)) = 0 := by rw [ek, isr_1 hy.1 hy.2 c37]; decide
        have e48 : (-1 : Int32) - xi τ 3 (8 * (8 * r + a) + k) = nI (rl (gY g (8 * r + a) k)) := by rw [ek, rl_sI c37]
        by_cases c49 : xi τ 4 (rl (gY g (8 * r + a) k)) = 0
        · refine sg_M_rowIsNothing_6_ffft6 X τ _ _ _ _ _ (8 * r + a) (8 * (8 * r + a) + k) _ e11 hr c14 e22 (by omega) (by rw [pI_0]; exact fun q => q c29) e37 e48 h16 c49 ?_
          rw [n_s]
          have := ih (k + 1) False (by omega) (nx False ⟨False.elim, fun q => by simp [c49] at q⟩) (by omega) hf2
          rw [pI_f (fun h => h)] at this
          exact this
        · refine sg_M_rowIsNothing_6_ffff6 X τ _ _ _ _ _ (8 * r + a) (8 * (8 * r + a) + k) _ e11 hr c14 e22 (by omega) (by rw [pI_0]; exact fun q => q c29) e37 e48 h16 c49 ?_
          rw [n_s]
          have := ih (k + 1) True (by omega) (nx True ⟨fun _ => ⟨c29, c37, by simp [c49, h16]⟩, fun _ => trivial⟩) (by omega) hf2
          rw [pI_t trivial] at this
          exact this
      · have e37 : b2i (decide (xi τ 3 (8 * (8 * r + a) + k) < 0)) = 0 := by rw [ek, isr_0 hy.1 hy.2 c37]
        refine sg_M_rowIsNothing_6_fft6 X τ _ _ _ _ _ (8 * r + a) (8 * (8 * r + a) + k) e11 hr c14 e22 (by omega) (by rw [pI_0]; exact fun q => q c29) e37 ?_
        rw [n_s]
        have := ih (k + 1) False (by omega) (nx False ⟨False.elim, fun q => c37 q.2.1⟩) (by omega) hf2
        rw [pI_f (fun h => h)] at this
        exact this
    · refine sg_M_rowIsNothing_6_ft6 X τ _ _ _ _ _ (8 * r + a) (8 * (8 * r + a) + k) e11 hr c14 e22 (by omega) (by rw [pI_0]; exact c29) ?_
      rw [n_s]
      have := ih (k + 1) False (by omega) (nx False ⟨False.elim, fun q => c29 q.1⟩) (by omega) hf2
      rw [pI_f (fun h => h)] at this
      exact this
theorem m_rowN (G : GG) {g : Gr} {τ : St} (hw : WF g) (hg : GM g τ) {r a f : Nat} (hr : 8 * r + a < 128) (hf : f < 10) :
    Ct y_M_rowIsNothing c_M_rowIsNothing 7 (some .boolean) rm_M_rowIsNothing G [.ref (xa τ 0), .int (nI r), .int (nI a), .int (nI f)] (WM G τ) (eqp (some (.int (pI (rowN g (fun y => bM τ y = true) (8 * r + a) f)))) (WM G τ)) := by
  refine Ct.of (by decide +kernel) (Nat.le_of_ble_eq_true rfl) (fun K X => ?_)
  refine sg_M_rowIsNothing_0_6 X τ _ _ _ ?_
  have := m_rowN_loop (post := eqp (some (.int (pI (rowN g (fun y => bM τ y = true) (8 * r + a) f)))) (WM G τ)) X hw hg hr ⟨rfl, rfl⟩ (max f (gL g (8 * r + a)) - f) f True (by omega) ⟨fun _ j h1 h2 => by omega, fun _ => trivial⟩ (Nat.le_refl _) hf
  rw [pI_t trivial] at this
  exact this
