/-! the component's findFault -/
def badR (g : Gr) (row : Nat) : Prop := ∃ k, k < gL g row ∧ gY g row k < -(gR g : Int)
theorem k_hasSym (G : GG) {g : Gr} {σ : St} (hw : WF g) (hg : GC g σ) {x : Nat} (hx : x < gR g) :
    Ct y_S_hasSymbolNotThere c_S_hasSymbolNotThere 5 (some .boolean) rm_S_hasSymbolNotThere G [.ref (xa σ 5), .int (nI x)] (WC G σ) (eqp (some (.int (pI (F2 g x)))) (WC G σ)) := by
  have h16 := hw.r
  have h8 := hw.a x
  obtain ⟨_, _, h2⟩ := iterE (C := fun q : KP => Bd q.1 G q.2.1 "FirstTrees$Study" c_S_hasSymbolNotThere 5 (some .boolean) rm_S_hasSymbolNotThere) (gA g x) (fun a (_ : Unit) => ∀ b, b < a → ¬ badR g (8 * x + b))
    (fun q a _ => Lb q.1 G q.2.1 (Qe q.1 G q.2.1 q.2.2 rm_S_hasSymbolNotThere) 5 2 [(0, .ref (xa σ 5)), (1, .int (nI x)), (2, .int (nI a))] [] (WC G σ) 0 0)
    (fun (_ : Unit) => True) (fun q _ => q.2.2 (some (.int (pI (F2 g x)))) (WC G σ)) (by
    intro a _ ha hI
    have hl := hw.l (8 * x + a)
    have c11 : ¬ altC σ x ≤ nI a := by rw [altC_eq hw hg hx, n_le (by omega) (by omega)]; omega
    have hr : 8 * x + a < 128 := by omega
    have go : ∀ k, k < gL g (8 * x + a) → ¬ gY g (8 * x + a) k < -(gR g : Int) → ∀ q, (fun q : KP => Bd q.1 G q.2.1 "FirstTrees$Study" c_S_hasSymbolNotThere 5 (some .boolean) rm_S_hasSymbolNotThere) q →
        Lb q.1 G q.2.1 (Qe q.1 G q.2.1 q.2.2 rm_S_hasSymbolNotThere) 5 23 [(0, .ref (xa σ 5)), (1, .int (nI x)), (2, .int (nI a)), (3, .int (nI (8 * x + a))), (4, .int (nI (k + 1)))] [] (WC G σ) 0 0 →
        Lb q.1 G q.2.1 (Qe q.1 G q.2.1 q.2.2 rm_S_hasSymbolNotThere) 5 23 [(0, .ref (xa σ 5)), (1, .int (nI x)), (2, .int (nI a)), (3, .int (nI (8 * x + a))), (4, .int (nI k))] [] (WC G σ) 0 0 := by
      intro k hk hn q X kk
      have hy := hw.y (8 * x + a) k
      refine sg_S_hasSymbolNotThere_23_ft23 X σ _ _ _ _ _ _ rfl hr (by rw [hg.2.2.1 _ hr, n_le (by omega) (by omega)]; omega) (n8 _ k) (by omega) ?_ ?_
      · rw [show xi σ 4 (8 * (8 * x + a) + k) = sI (gY g (8 * x + a) k) from hg.2.2.2 _ (by omega), hg.1, show (-1 : Int32) = sI (-1) from rfl, sI_sub, nI_sI, sI_lt (by omega) (by omega) (by omega) (by omega)]; omega
      · rw [n_s]; exact kk
    by_cases c : badR g (8 * x + a)
    · refine .inl ⟨(), trivial, ?_⟩
      have hF : F2 g x := ⟨a, ha, c⟩
      obtain ⟨k0, hk0, hb0⟩ := c
      obtain ⟨_, _, h4⟩ := iterE (C := fun q : KP => Bd q.1 G q.2.1 "FirstTrees$Study" c_S_hasSymbolNotThere 5 (some .boolean) rm_S_hasSymbolNotThere) (gL g (8 * x + a)) (fun k (_ : Unit) => ∀ j, j < k → ¬ gY g (8 * x + a) j < -(gR g : Int))
        (fun q k _ => Lb q.1 G q.2.1 (Qe q.1 G q.2.1 q.2.2 rm_S_hasSymbolNotThere) 5 23 [(0, .ref (xa σ 5)), (1, .int (nI x)), (2, .int (nI a)), (3, .int (nI (8 * x + a))), (4, .int (nI k))] [] (WC G σ) 0 0)
        (fun (_ : Unit) => True) (fun q _ => q.2.2 (some (.int (pI (F2 g x)))) (WC G σ)) (by
        intro k _ hk hI
        by_cases d : gY g (8 * x + a) k < -(gR g : Int)
        · refine .inl ⟨(), trivial, fun q X kk => ?_⟩
          have hy := hw.y (8 * x + a) k
          refine sg_S_hasSymbolNotThere_23_ffr X σ _ _ _ _ _ _ rfl hr (by rw [hg.2.2.1 _ hr, n_le (by omega) (by omega)]; omega) (n8 _ k) (by omega) ?_ ?_
          · rw [show xi σ 4 (8 * (8 * x + a) + k) = sI (gY g (8 * x + a) k) from hg.2.2.2 _ (by omega), hg.1, show (-1 : Int32) = sI (-1) from rfl, sI_sub, nI_sI, sI_lt (by omega) (by omega) (by omega) (by omega)]; omega
          · rw [pI_t hF] at kk; exact kk
        · refine .inr ⟨(), ?_, go k hk d⟩
          intro j hj
          by_cases e : j = k
          · rw [e]; exact d
          · exact hI j (by omega)) (fun _ hI => absurd hb0 (hI k0 hk0)) 0 () (Nat.zero_le _) (fun j hj => by omega)
      intro q X kk
      refine sg_S_hasSymbolNotThere_2_f23 X σ _ _ x rfl (by omega) c11 ?_
      rw [n8]; exact h4 q X kk
    · refine .inr ⟨(), ?_, ?_⟩
      · intro b hb
        by_cases e : b = a
        · rw [e]; exact c
        · exact hI b (by omega)
      · obtain ⟨_, _, h4⟩ := iterL (C := fun q : KP => Bd q.1 G q.2.1 "FirstTrees$Study" c_S_hasSymbolNotThere 5 (some .boolean) rm_S_hasSymbolNotThere) (gL g (8 * x + a)) (fun k (_ : Unit) => True)
          (fun q k _ => Lb q.1 G q.2.1 (Qe q.1 G q.2.1 q.2.2 rm_S_hasSymbolNotThere) 5 23 [(0, .ref (xa σ 5)), (1, .int (nI x)), (2, .int (nI a)), (3, .int (nI (8 * x + a))), (4, .int (nI k))] [] (WC G σ) 0 0)
          (fun k _ hk _ => ⟨(), trivial, go k hk (fun q => c ⟨k, hk, q⟩)⟩) 0 () (Nat.zero_le _) trivial
        intro q X kk
        refine sg_S_hasSymbolNotThere_2_f23 X σ _ _ x rfl (by omega) c11 ?_
        rw [n8]
        refine h4 q X ?_
        refine sg_S_hasSymbolNotThere_23_t2 X σ _ _ _ _ _ rfl hr (by rw [hg.2.2.1 _ hr, n_le (by omega) (by omega)]; omega) ?_
        rw [n_s]; exact kk) (by
    intro _ hI
    refine ⟨(), trivial, fun q X kk => sg_S_hasSymbolNotThere_2_tr X σ _ _ x rfl (by omega) (by rw [altC_eq hw hg hx, n_le (by omega) (by omega)]; omega) ?_⟩
    have hF : ¬ F2 g x := fun ⟨a, ha, hb⟩ => hI a ha hb
    rw [pI_f hF] at kk; exact kk) 0 () (Nat.zero_le _) (fun b hb => by omega)
  refine Ct.of (by decide +kernel) (Nat.le_of_ble_eq_true rfl) (fun K X => ?_)
  exact sg_S_hasSymbolNotThere_0_2 X σ _ (h2 (K, _, _) X ⟨rfl, rfl⟩)
/-- the fault that kind `kd` looks for -/
def Fk (g : Gr) (kd : Nat) (x : Nat) : Prop := if kd = 2 then F2 g x else if kd = 3 then F3 g x else F4 g x
theorem k_hasFault (G : GG) {g : Gr} {σ : St} (hw : WF g) (hg : GC g σ) (hL : ∀ x, x < gR g → ∀ i, tc (xi σ 6 x) i = true ↔ Lf g x i) {x kd : Nat} (hx : x < gR g) (hk : kd < 5) :
    Ct y_S_hasFault c_S_hasFault 3 (some .boolean) rm_S_hasFault G [.ref (xa σ 5), .int (nI x), .int (nI kd)] (WC G σ) (eqp (some (.int (pI (Fk g kd x)))) (WC G σ)) := by
  have h16 := hw.r
  have h8 := hw.a x
  unfold Fk
  by_cases c2 : kd = 2
  · subst c2
    exact ct_S_hasFault_f G σ _ _ _ rfl (k_hasSym G hw hg hx) (nar_pI _)
  · have n2 : ¬ nI kd = (2 : Int32) := by rw [show (2 : Int32) = nI 2 from rfl, n_eq (by omega) (by omega)]; exact c2
    rw [if_neg c2]
    by_cases c3 : kd = 3
    · subst c3
      rw [if_pos rfl]
      by_cases c : F3 g x
      · rw [pI_t c]
        refine ct_S_hasFault_tff G σ _ _ x n2 rfl rfl (by omega) ?_
        rw [altC_eq hw hg hx]; unfold F3 at c; rw [c]; rfl
      · rw [pI_f c]
        refine ct_S_hasFault_tft G σ _ _ x n2 rfl rfl (by omega) ?_
        rw [altC_eq hw hg hx, show (0 : Int32) = nI 0 from rfl, n_eq (by omega) (by omega)]; exact c
    · have n3 : ¬ nI kd = (3 : Int32) := by rw [show (3 : Int32) = nI 3 from rfl, n_eq (by omega) (by omega)]; exact c3
      rw [if_neg c3]
      have e : hasB (Int32.toInt64 (xi σ 6 x)) (nI x) = pI (F4 g x) := by
        rw [hasB_eq (by omega), tb_i2l (by omega)]
        by_cases c : F4 g x
        · rw [pI_t c, if_pos ((hL x hx x).mpr c)]
        · rw [pI_f c, if_neg (fun q => c ((hL x hx x).mp q))]
      have t := ct_S_hasFault_tt G σ (nI x) (nI kd) x n2 n3 rfl (by omega) (by rw [e]; exact nar_pI _)
      rw [e] at t
      exact t
theorem k_fF_rule (G : GG) {g : Gr} {σ : St} (hw : WF g) (hg : GC g σ) (hL : ∀ x, x < gR g → ∀ i, tc (xi σ 6 x) i = true ↔ Lf g x i) {kd : Nat} (hk : kd < 5) (hk0 : 2 ≤ kd) :
    ∃ kf v, ((kf = 0 ∧ v = -1 ∧ NoF (Fk g kd) (gR g)) ∨ (kf = kd ∧ ¬ NoF (Fk g kd) (gR g) ∧ Low (Fk g kd) 0 (gR g) v)) ∧ ∀ q, (fun q : KQ => Bd q.1 G q.2.1 "FirstTrees$Study" c_S_findFault 3 none rm_S_findFault) q →
      Lb q.1 G q.2.1 q.2.2 3 48 [(0, .ref (xa σ 5)), (1, .int (nI kd)), (2, .int (dI 0))] [] (WC G (wi (wi σ 5 1 (nI kf)) 5 2 (sI v))) 0 0 →
      Lb q.1 G q.2.1 q.2.2 3 48 [(0, .ref (xa σ 5)), (1, .int (nI kd)), (2, .int (dI (gR g)))] [] (WC G (wi (wi σ 5 1 0) 5 2 (sI (-1)))) 0 0 := by
  have h16 := hw.r
  obtain ⟨⟨kf, v⟩, h1, h2⟩ := iterD (C := fun q : KQ => Bd q.1 G q.2.1 "FirstTrees$Study" c_S_findFault 3 none rm_S_findFault) (fun i (s : Nat × Int) => Low (Fk g kd) i (gR g) s.2 ∧ (s.1 = 0 ∧ s.2 = -1 ∨ s.1 = kd ∧ 0 ≤ s.2))
    (fun q i s => Lb q.1 G q.2.1 q.2.2 3 48 [(0, .ref (xa σ 5)), (1, .int (nI kd)), (2, .int (dI i))] [] (WC G (wi (wi σ 5 1 (nI s.1)) 5 2 (sI s.2))) 0 0) (gR g) (by
    intro i ⟨kf, v⟩ hi ⟨hl, hs⟩
    have hg' : GC g (wi (wi σ 5 1 (nI kf)) 5 2 (sI v)) := hg.of rfl rfl rfl rfl
    have t := k_hasFault G (σ := wi (wi σ 5 1 (nI kf)) 5 2 (sI v)) hw hg' hL hi hk
    by_cases c : Fk g kd i
    · refine ⟨(kd, i), ⟨Low.yes hi c, .inr ⟨rfl, by simp⟩⟩, fun q X k => ?_⟩
      show Lb _ _ _ _ _ _ [(0, .ref (xa σ 5)), (1, .int (nI kd)), (2, .int (dI (i + 1)))] _ _ _ _
      rw [dI_s]
      refine sg_S_findFault_48_ff48 X (wi (wi σ 5 1 (nI kf)) 5 2 (sI v)) _ _ _ (dI_nn (by omega)) t (by rw [pI_n0]; exact c) ?_
      rw [dI_m]
      have e : wi (wi (wi (wi σ 5 1 (nI kf)) 5 2 (sI v)) 5 1 (nI kd)) 5 2 (nI i) = wi (wi σ 5 1 (nI kd)) 5 2 (sI (i : Int)) := by
        simp only [wi_eq, si_si, xi_si]
        congr 1
        funext j
        unfold upd
        by_cases q1 : j = 1 <;> by_cases q2 : j = 2 <;> simp [q1, q2, nI_sI]
      rw [e]; exact k
    · refine ⟨(kf, v), ⟨hl.no c, hs⟩, fun q X k => ?_⟩
      show Lb _ _ _ _ _ _ [(0, .ref (xa σ 5)), (1, .int (nI kd)), (2, .int (dI (i + 1)))] _ _ _ _
      rw [dI_s]
      refine sg_S_findFault_48_ft48 X (wi (wi σ 5 1 (nI kf)) 5 2 (sI v)) _ _ _ (dI_nn (by omega)) t (by rw [pI_0]; exact c) ?_
      rw [dI_m]; exact k) (gR g) (0, -1) (Nat.le_refl _) ⟨Low.start _ _, .inl ⟨rfl, rfl⟩⟩
  refine ⟨kf, v, ?_, h2⟩
  obtain ⟨h3, h4⟩ := h1
  have h5 := h3.neg
  rcases h4 with ⟨e1, e2⟩ | ⟨e1, e2⟩
  · exact .inl ⟨e1, e2, h5.mp (by have : v = -1 := e2; show v < 0; omega)⟩
  · exact .inr ⟨e1, fun q => by have := h5.mpr q; have h6 : 0 ≤ v := e2; have h7 : v < 0 := this; omega, h3⟩
