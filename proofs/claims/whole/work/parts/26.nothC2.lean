theorem bN_or (σ : St) {x : Nat} (hx : x < 16) (i : Nat) : bN (wi σ 5 3 ((xi σ 5 3) ||| (1 <<< (nI x &&& 31)))) i = (bN σ i || decide (i = x)) := by
  show tc ((xi σ 5 3) ||| (1 <<< (nI x &&& 31))) i = _
  rw [tc_or, tc_sh1 (by omega)]
theorem k_fN_alt {G : GG} {g : Gr} (hw : WF g) (x1 x2 x3 : Int32) {x : Nat} (hx : x < gR g) (B0 : Nat → Bool) (m : Nat) :
    ∀ (σ : St) (a : Nat), GC g σ → a + m = gA g x → PassN g B0 (bN σ) (fun y b => (y < x ∧ b < gA g y) ∨ (y = x ∧ b < a)) →
    ∃ v, PassN g B0 (bN (wi σ 5 3 v)) (fun y b => (y < x ∧ b < gA g y) ∨ (y = x ∧ b < gA g x)) ∧ ∀ (K : KX) (w0 : va_W) (Q : State → Prop), Bd K G w0 "FirstTrees$Study" c_S_findNothing 6 none rm_S_findNothing →
      Lb K G w0 Q 6 27 [(0, .ref (xa σ 5)), (1, .int x1), (2, .int x2), (3, .int x3), (4, .int (nI (x + 1)))] [] (WC G (wi σ 5 3 v)) 0 0 →
      Lb K G w0 Q 6 42 [(0, .ref (xa σ 5)), (1, .int x1), (2, .int x2), (3, .int x3), (4, .int (nI x)), (5, .int (nI a))] [] (WC G σ) 0 0 := by
  have h16 := hw.r
  have h8 := hw.a x
  induction m with
  | zero =>
    intro σ a hg ha hP
    refine ⟨xi σ 5 3, ?_, ?_⟩
    · rw [wi_self]; rw [show a = gA g x by omega] at hP; exact hP
    · intro K w0 Q X k
      rw [wi_self] at k
      refine sg_S_findNothing_42_t27 X σ _ _ _ _ _ x rfl (by omega) ?_ ?_
      · rw [altC_eq hw hg hx, n_le (by omega) (by omega)]; omega
      · rw [n_s]; exact k
  | succ m ih =>
    intro σ a hg ha hP
    have c53 : ¬ altC σ x ≤ nI a := by rw [altC_eq hw hg hx, n_le (by omega) (by omega)]; omega
    have t := k_rowN G (σ := σ) hw hg (row := 8 * x + a) (by omega)
    rw [← n8] at t
    by_cases c : rowN g (fun y => bN σ y = true) (8 * x + a) 0
    · have hg' : GC g (wi σ 5 3 ((xi σ 5 3) ||| (1 <<< (nI x &&& 31)))) := hg.of rfl rfl rfl rfl
      obtain ⟨v, h1, h2⟩ := ih (wi σ 5 3 ((xi σ 5 3) ||| (1 <<< (nI x &&& 31)))) (a + 1) hg' (by omega) (by
        refine (hP.step hx (a := a) (by omega) (fun y => ?_)).mono (fun y b q => by omega)
        rw [bN_or σ (by omega)]; simp only [Bool.or_eq_true, decide_eq_true_eq]
        constructor
        · rintro (q | q)
          · exact .inl q
          · exact .inr ⟨q, c⟩
        · rintro (q | q)
          · exact .inl q
          · exact .inr q.1)
      rw [wi_wi] at h1 h2
      refine ⟨v, h1, fun K w0 Q X k => ?_⟩
      refine sg_S_findNothing_42_ff42 X σ _ _ _ _ _ x _ rfl (by omega) c53 t (by rw [pI_0]; exact fun q => q c) ?_
      rw [n_s]; exact h2 K w0 Q X k
    · obtain ⟨v, h1, h2⟩ := ih σ (a + 1) hg (by omega) (by
        refine (hP.step hx (a := a) (by omega) (B' := bN σ) (fun y => ?_)).mono (fun y b q => by omega)
        constructor
        · exact .inl
        · rintro (q | q)
          · exact q
          · exact absurd q.2 c)
      refine ⟨v, h1, fun K w0 Q X k => ?_⟩
      refine sg_S_findNothing_42_ft42 X σ _ _ _ _ _ x _ rfl (by omega) c53 t (by rw [pI_0]; exact c) ?_
      rw [n_s]; exact h2 K w0 Q X k
theorem k_fN_rule {G : GG} {g : Gr} (hw : WF g) (x1 x2 x3 : Int32) (B0 : Nat → Bool) (m : Nat) :
    ∀ (σ : St) (x : Nat), GC g σ → x + m = gR g → PassN g B0 (bN σ) (fun y b => y < x ∧ b < gA g y) →
    ∃ v, PassN g B0 (bN (wi σ 5 3 v)) (fun y b => y < gR g ∧ b < gA g y) ∧ ∀ (K : KX) (w0 : va_W) (Q : State → Prop), Bd K G w0 "FirstTrees$Study" c_S_findNothing 6 none rm_S_findNothing →
      Lb K G w0 Q 6 27 [(0, .ref (xa σ 5)), (1, .int x1), (2, .int x2), (3, .int x3), (4, .int (nI (gR g)))] [] (WC G (wi σ 5 3 v)) 0 0 →
      Lb K G w0 Q 6 27 [(0, .ref (xa σ 5)), (1, .int x1), (2, .int x2), (3, .int x3), (4, .int (nI x))] [] (WC G σ) 0 0 := by
  have h16 := hw.r
  induction m with
  | zero =>
    intro σ x hg hx hP
    have : x = gR g := by omega
    subst this
    refine ⟨xi σ 5 3, ?_, ?_⟩
    · rw [wi_self]; exact hP
    · intro K w0 Q X k; rw [wi_self] at k; exact k
  | succ m ih =>
    intro σ x hg hx hP
    have c36 : ¬ xi σ 1 0 ≤ nI x := by rw [hg.1, n_le (by omega) (by omega)]; omega
    obtain ⟨v, h1, h2⟩ := k_fN_alt (G := G) hw x1 x2 x3 (x := x) (by omega) B0 (gA g x) σ 0 hg (by omega) (hP.mono (fun y b q => by
      rcases q with q | q
      · exact q
      · omega))
    obtain ⟨v', h3, h4⟩ := ih (wi σ 5 3 v) (x + 1) (hg.of rfl rfl rfl rfl) (by omega) (h1.mono (fun y b q => by
      by_cases e : y = x
      · subst e; exact .inr ⟨rfl, q.2⟩
      · exact .inl ⟨by omega, q.2⟩))
    rw [wi_wi] at h3 h4
    refine ⟨v', h3, fun K w0 Q X k => ?_⟩
    exact sg_S_findNothing_27_f42 X σ _ _ _ _ c36 (h2 K w0 Q X (h4 K w0 Q X k))
theorem k_fN_pass {G : GG} {g : Gr} (hw : WF g) (m : Nat) :
    ∀ (σ : St) (p : Nat) (x1 : Int32), GC g σ → p + m = 17 → (∀ i, bN σ i = true → Nul g i) → (x1 = 0 ∧ ClosedN g (fun y => bN σ y = true) ∨ x1 = 1 ∧ p ≤ cnt (bN σ) (gR g)) →
    ∃ v, (∀ i, tc v i = true ↔ Nul g i) ∧ ∀ (K : KX) (w0 : va_W) (post : PostT), Bd K G w0 "FirstTrees$Study" c_S_findNothing 6 none rm_S_findNothing → post none (WC G (wi σ 5 3 v)) →
      Lb K G w0 (Qe K G w0 post rm_S_findNothing) 6 9 [(0, .ref (xa σ 5)), (1, .int x1), (2, .int (nI p))] [] (WC G σ) 0 0 := by
  have h16 := hw.r
  induction m with
  | zero =>
    intro σ p x1 hg hp hB hc
    refine ⟨xi σ 5 3, ?_, ?_⟩
    · rcases hc with ⟨_, q⟩ | ⟨_, q⟩
      · exact Nul_iff hB q
      · have := cnt_le (bN σ) (gR g); omega
    · intro K w0 post X hp'
      rw [wi_self] at hp'
      exact sg_S_findNothing_9_tr X σ _ _ (by rw [show (16 : Int32) = nI 16 from rfl, n_lt (by omega) (by omega)]; omega) hp'
  | succ m ih =>
    intro σ p x1 hg hp hB hc
    have c12 : ¬ (16 : Int32) < nI p := by rw [show (16 : Int32) = nI 16 from rfl, n_lt (by omega) (by omega)]; omega
    by_cases c16 : x1 = 0
    · have hC : ClosedN g (fun y => bN σ y = true) := by
        rcases hc with ⟨_, q⟩ | ⟨q, _⟩
        · exact q
        · rw [q] at c16; cases c16
      refine ⟨xi σ 5 3, Nul_iff hB hC, ?_⟩
      intro K w0 post X hp'
      rw [wi_self] at hp'
      exact sg_S_findNothing_9_ftr X σ _ _ c12 c16 hp'
    · obtain ⟨v, h1, h2⟩ := k_fN_rule (G := G) hw x1 (nI p) (xi σ 5 3) (bN σ) (gR g) σ 0 hg (by omega) ((PassN.start hB).mono (fun y b q => by omega))
      have hg' : GC g (wi σ 5 3 v) := hg.of rfl rfl rfl rfl
      have c36 : xi (wi σ 5 3 v) 1 0 ≤ nI (gR g) := by rw [hg'.1, n_le (by omega) (by omega)]; omega
      by_cases c : v = xi σ 5 3
      · obtain ⟨v', h3, h4⟩ := ih (wi σ 5 3 v) (p + 1) 0 hg' (by omega) h1.2.1 (.inl ⟨rfl, h1.fin (fun x a p q => ⟨p, q⟩) (fun x q => by rw [c] at q; rw [wi_self] at q; exact q)⟩)
        rw [wi_wi] at h4
        refine ⟨v', h3, fun K w0 post X hp' => ?_⟩
        refine sg_S_findNothing_9_ff27 X σ _ _ c12 c16 (h2 K w0 _ X ?_)
        refine sg_S_findNothing_27_tt9 X (wi σ 5 3 v) _ _ _ _ c36 c ?_
        rw [n_s]; exact h4 K w0 post X hp'
      · obtain ⟨v', h3, h4⟩ := ih (wi σ 5 3 v) (p + 1) 1 hg' (by omega) h1.2.1 (.inr ⟨rfl, by
          have hlt := h1.cnt (fun e => c (by
            apply tc_ext
            intro i _
            have e1 : tc v i = true → tc (xi σ 5 3) i = true := e i
            have e2 : tc (xi σ 5 3) i = true → tc v i = true := h1.1 i
            cases q1 : tc v i <;> cases q2 : tc (xi σ 5 3) i <;> simp_all))
          rcases hc with ⟨q, _⟩ | ⟨_, q⟩
          · exact absurd q c16
          · omega⟩)
        rw [wi_wi] at h4
        refine ⟨v', h3, fun K w0 post X hp' => ?_⟩
        refine sg_S_findNothing_9_ff27 X σ _ _ c12 c16 (h2 K w0 _ X ?_)
        refine sg_S_findNothing_27_tf9 X (wi σ 5 3 v) _ _ _ _ c36 c ?_
        rw [n_s]; exact h4 K w0 post X hp'
theorem k_findNothing (G : GG) {g : Gr} {σ : St} (hw : WF g) (hg : GC g σ) :
    ∃ v, (∀ i, tc v i = true ↔ Nul g i) ∧ Ct y_S_findNothing c_S_findNothing 6 none rm_S_findNothing G [.ref (xa σ 5)] (WC G σ) (eqp none (WC G (wi σ 5 3 v))) := by
  obtain ⟨v, h1, h2⟩ := k_fN_pass (G := G) hw 17 (wi σ 5 3 0) 0 1 (hg.of rfl rfl rfl rfl) rfl (fun i h => by
    have h' : tc 0 i = true := h
    rw [tc_0] at h'; cases h') (.inr ⟨rfl, Nat.zero_le _⟩)
  rw [wi_wi] at h2
  refine ⟨v, h1, ?_⟩
  refine Ct.of (by decide +kernel) (Nat.le_of_ble_eq_true rfl) (fun K X => ?_)
  exact sg_S_findNothing_0_9 X σ (h2 K _ _ X ⟨rfl, rfl⟩)
