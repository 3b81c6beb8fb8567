/-! the reference's faultOf -/
theorem m1lt : sI (-1) < 0 := by decide
theorem si_wi (τ : St) {k k' : Nat} (h : k ≠ k') {i : Nat} {v : Int32} {f : Nat → Int32} : si (wi τ k i v) k' f = wi (si τ k' f) k i v := by
  unfold si wi
  congr 2
  funext j
  by_cases h1 : j = k'
  · simp only [h1, if_true]
    rw [if_neg (fun q => h q.symm)]
  · simp [h1]
theorem GM.w {g : Gr} {τ : St} (h : GM g τ) (v : Int32) : GM g (wi τ 0 2 v) := h.of rfl rfl rfl rfl
theorem m_F2_rule (G : GG) {g : Gr} {τ : St} (hw : WF g) (hg : GM g τ) {x : Nat} (hx : x < gR g) (v : Int) :
    ∃ v' : Int, ((F2 g x ∧ v' = x) ∨ (¬ F2 g x ∧ v' = v)) ∧ ∀ q, (fun q : KQ => Bd q.1 G q.2.1 "FirstTreesModel" c_M_faultOf 4 (some .int) rm_M_faultOf) q →
      Lb q.1 G q.2.1 q.2.2 4 21 [(0, .ref (xa τ 0)), (1, .int (dI x))] [] (WM G (wi τ 0 2 (sI v'))) 0 0 →
      Lb q.1 G q.2.1 q.2.2 4 21 [(0, .ref (xa τ 0)), (1, .int (dI (x + 1)))] [] (WM G (wi τ 0 2 (sI v))) 0 0 := by
  have h16 := hw.r
  have h8 := hw.a x
  obtain ⟨v', h1, h2⟩ := iterL (C := fun q : KQ => Bd q.1 G q.2.1 "FirstTreesModel" c_M_faultOf 4 (some .int) rm_M_faultOf) (gA g x) (fun a (v' : Int) => ((∃ b, b < a ∧ ∃ k, k < gL g (8 * x + b) ∧ gY g (8 * x + b) k < -(gR g : Int)) ∧ v' = x) ∨ ((¬ ∃ b, b < a ∧ ∃ k, k < gL g (8 * x + b) ∧ gY g (8 * x + b) k < -(gR g : Int)) ∧ v' = v))
    (fun q a v' => Lb q.1 G q.2.1 q.2.2 4 27 [(0, .ref (xa τ 0)), (1, .int (nI x)), (2, .int (nI a))] [] (WM G (wi τ 0 2 (sI v'))) 0 0) (by
    intro a u ha hu
    have hl := hw.l (8 * x + a)
    have hr : 8 * x + a < 128 := by omega
    obtain ⟨u', h3, h4⟩ := iterL (C := fun q : KQ => Bd q.1 G q.2.1 "FirstTreesModel" c_M_faultOf 4 (some .int) rm_M_faultOf) (gL g (8 * x + a)) (fun k (v' : Int) => ((∃ j, j < k ∧ gY g (8 * x + a) j < -(gR g : Int)) ∧ v' = x) ∨ ((¬ ∃ j, j < k ∧ gY g (8 * x + a) j < -(gR g : Int)) ∧ v' = u))
      (fun q k v' => Lb q.1 G q.2.1 q.2.2 4 39 [(0, .ref (xa τ 0)), (1, .int (nI x)), (2, .int (nI a)), (3, .int (nI k))] [] (WM G (wi τ 0 2 (sI v'))) 0 0) (by
      intro k w hk hw'
      have hy := hw.y (8 * x + a) k
      have ek : xi (wi τ 0 2 (sI w)) 3 (8 * (8 * x + a) + k) = sI (gY g (8 * x + a) k) := hg.2.2.2 _ (by omega)
      have c46 : ¬ xi (wi τ 0 2 (sI w)) 2 (8 * x + a) ≤ nI k := by rw [(hg.w _).2.2.1 _ hr, n_le (by omega) (by omega)]; omega
      by_cases c : gY g (8 * x + a) k < -(gR g : Int)
      · refine ⟨x, .inl ⟨⟨k, by omega, c⟩, rfl⟩, fun q X kk => ?_⟩
        refine sg_M_faultOf_39_ff39 X (wi τ 0 2 (sI w)) _ _ _ _ _ (m8 x a) hr c46 (m64 x a k) (by omega) ?_ ?_
        · rw [ek, show xi (wi τ 0 2 (sI w)) 0 1 = xi τ 0 1 from rfl, hg.1, nI_sI, sI_neg, sI_le (by omega) (by omega) (by omega) (by omega)]; omega
        · rw [n_s, wi_wi]; exact kk
      · refine ⟨w, ?_, fun q X kk => ?_⟩
        · rcases hw' with ⟨⟨j, h5, h6⟩, e⟩ | ⟨h5, e⟩
          · exact .inl ⟨⟨j, by omega, h6⟩, e⟩
          · refine .inr ⟨fun ⟨j, h6, h7⟩ => ?_, e⟩
            by_cases q : j = k
            · rw [q] at h7; exact c h7
            · exact h5 ⟨j, by omega, h7⟩
        · refine sg_M_faultOf_39_ft39 X (wi τ 0 2 (sI w)) _ _ _ _ _ (m8 x a) hr c46 (m64 x a k) (by omega) ?_ ?_
          · rw [ek, show xi (wi τ 0 2 (sI w)) 0 1 = xi τ 0 1 from rfl, hg.1, nI_sI, sI_neg, sI_le (by omega) (by omega) (by omega) (by omega)]; omega
          · rw [n_s, wi_self]; exact kk) 0 u (Nat.zero_le _) (.inr ⟨fun ⟨j, h, _⟩ => absurd h (Nat.not_lt_zero j), rfl⟩)
    refine ⟨u', ?_, fun q X kk => ?_⟩
    · rcases h3 with ⟨h5, e⟩ | ⟨h5, e⟩
      · exact .inl ⟨⟨a, by omega, h5⟩, e⟩
      · rcases hu with ⟨⟨b, h6, h7⟩, e'⟩ | ⟨h6, e'⟩
        · exact .inl ⟨⟨b, by omega, h7⟩, by rw [e, e']⟩
        · refine .inr ⟨fun ⟨b, h7, h8⟩ => ?_, by rw [e, e']⟩
          by_cases q : b = a
          · rw [q] at h8; exact h5 h8
          · exact h6 ⟨b, by omega, h8⟩
    · refine sg_M_faultOf_27_f39 X (wi τ 0 2 (sI u)) _ _ x rfl (by omega) (by rw [(hg.w _).2.1 x (by omega), n_le (by omega) (by omega)]; omega) (h4 q X ?_)
      refine sg_M_faultOf_39_t27 X (wi τ 0 2 (sI u')) _ _ _ _ (m8 x a) hr (by rw [(hg.w _).2.2.1 _ hr, n_le (by omega) (by omega)]; omega) ?_
      rw [n_s]; exact kk) 0 v (Nat.zero_le _) (.inr ⟨fun ⟨j, h, _⟩ => absurd h (Nat.not_lt_zero j), rfl⟩)
  refine ⟨v', h1, fun q X kk => ?_⟩
  rw [dI_s]
  refine sg_M_faultOf_21_f27 X (wi τ 0 2 (sI v)) _ (dI_nn (by omega)) (h2 q X ?_)
  refine sg_M_faultOf_27_t21 X (wi τ 0 2 (sI v')) _ _ x rfl (by omega) (by rw [(hg.w _).2.1 x (by omega), n_le (by omega) (by omega)]; omega) ?_
  rw [dI_m]; exact kk
theorem m_F2 (G : GG) {g : Gr} {τ : St} (hw : WF g) (hg : GM g τ) :
    ∃ v : Int, Low (F2 g) 0 (gR g) v ∧ ∀ q, (fun q : KQ => Bd q.1 G q.2.1 "FirstTreesModel" c_M_faultOf 4 (some .int) rm_M_faultOf) q →
      Lb q.1 G q.2.1 q.2.2 4 21 [(0, .ref (xa τ 0)), (1, .int (dI 0))] [] (WM G (wi τ 0 2 (sI v))) 0 0 →
      Lb q.1 G q.2.1 q.2.2 4 21 [(0, .ref (xa τ 0)), (1, .int (dI (gR g)))] [] (WM G (wi τ 0 2 (sI (-1)))) 0 0 :=
  iterD (C := fun q : KQ => Bd q.1 G q.2.1 "FirstTreesModel" c_M_faultOf 4 (some .int) rm_M_faultOf) (fun i (v : Int) => Low (F2 g) i (gR g) v) (fun q i v => Lb q.1 G q.2.1 q.2.2 4 21 [(0, .ref (xa τ 0)), (1, .int (dI i))] [] (WM G (wi τ 0 2 (sI v))) 0 0) (gR g) (by
    intro i v hi hl
    obtain ⟨v', h1, h2⟩ := m_F2_rule G hw hg hi v
    refine ⟨v', ?_, h2⟩
    rcases h1 with ⟨h3, e⟩ | ⟨h3, e⟩
    · rw [e]; exact Low.yes hi h3
    · rw [e]; exact hl.no h3) (gR g) (-1) (Nat.le_refl _) (Low.start _ _)
theorem m_F3 (G : GG) {g : Gr} {τ : St} (hw : WF g) (hg : GM g τ) :
    ∃ v : Int, Low (F3 g) 0 (gR g) v ∧ ∀ q, (fun q : KQ => Bd q.1 G q.2.1 "FirstTreesModel" c_M_faultOf 4 (some .int) rm_M_faultOf) q →
      Lb q.1 G q.2.1 q.2.2 4 110 [(0, .ref (xa τ 0)), (1, .int (dI 0))] [] (WM G (wi τ 0 2 (sI v))) 0 0 →
      Lb q.1 G q.2.1 q.2.2 4 110 [(0, .ref (xa τ 0)), (1, .int (dI (gR g)))] [] (WM G (wi τ 0 2 (sI (-1)))) 0 0 :=
  iterD (C := fun q : KQ => Bd q.1 G q.2.1 "FirstTreesModel" c_M_faultOf 4 (some .int) rm_M_faultOf) (fun i (v : Int) => Low (F3 g) i (gR g) v) (fun q i v => Lb q.1 G q.2.1 q.2.2 4 110 [(0, .ref (xa τ 0)), (1, .int (dI i))] [] (WM G (wi τ 0 2 (sI v))) 0 0) (gR g) (by
    intro i v hi hl
    have h16 := hw.r
    have h8 := hw.a i
    have e1 : xi (wi τ 0 2 (sI v)) 1 i = nI (gA g i) := hg.2.1 i (by omega)
    by_cases c : F3 g i
    · refine ⟨i, Low.yes hi c, fun q X kk => ?_⟩
      show Lb _ _ _ _ _ _ [(0, .ref (xa τ 0)), (1, .int (dI (i + 1)))] _ _ _ _
      rw [dI_s]
      refine sg_M_faultOf_110_ff110 X (wi τ 0 2 (sI v)) _ i (dI_nn (by omega)) rfl (by omega) (by rw [e1]; unfold F3 at c; rw [c]; rfl) ?_
      rw [dI_m, wi_wi]; exact kk
    · refine ⟨v, hl.no c, fun q X kk => ?_⟩
      show Lb _ _ _ _ _ _ [(0, .ref (xa τ 0)), (1, .int (dI (i + 1)))] _ _ _ _
      rw [dI_s]
      refine sg_M_faultOf_110_ft110 X (wi τ 0 2 (sI v)) _ i (dI_nn (by omega)) rfl (by omega) (by rw [e1, show (0 : Int32) = nI 0 from rfl, n_eq (by omega) (by omega)]; exact c) ?_
      rw [dI_m, wi_self]; exact kk) (gR g) (-1) (Nat.le_refl _) (Low.start _ _)
theorem m_F4 (G : GG) {g : Gr} {τ : St} (hw : WF g) (hg : GM g τ) (hL : ∀ y i, y < gR g → i < gR g → (¬ xi τ 5 (16 * y + i) = 0 ↔ Lf g y i)) :
    ∃ v : Int, Low (F4 g) 0 (gR g) v ∧ ∀ q, (fun q : KQ => Bd q.1 G q.2.1 "FirstTreesModel" c_M_faultOf 4 (some .int) rm_M_faultOf) q →
      Lb q.1 G q.2.1 q.2.2 4 165 [(0, .ref (xa τ 0)), (1, .int (dI 0))] [] (WM G (wi τ 0 2 (sI v))) 0 0 →
      Lb q.1 G q.2.1 q.2.2 4 165 [(0, .ref (xa τ 0)), (1, .int (dI (gR g)))] [] (WM G (wi τ 0 2 (sI (-1)))) 0 0 :=
  iterD (C := fun q : KQ => Bd q.1 G q.2.1 "FirstTreesModel" c_M_faultOf 4 (some .int) rm_M_faultOf) (fun i (v : Int) => Low (F4 g) i (gR g) v) (fun q i v => Lb q.1 G q.2.1 q.2.2 4 165 [(0, .ref (xa τ 0)), (1, .int (dI i))] [] (WM G (wi τ 0 2 (sI v))) 0 0) (gR g) (by
    intro i v hi hl
    have h16 := hw.r
    have e1 : ¬ xi (wi τ 0 2 (sI v)) 5 (17 * i) = 0 ↔ F4 g i := by
      have := hL i i hi hi
      rw [show 16 * i + i = 17 * i by omega] at this
      exact this
    by_cases c : F4 g i
    · refine ⟨i, Low.yes hi c, fun q X kk => ?_⟩
      show Lb _ _ _ _ _ _ [(0, .ref (xa τ 0)), (1, .int (dI (i + 1)))] _ _ _ _
      rw [dI_s]
      refine sg_M_faultOf_165_ff165 X (wi τ 0 2 (sI v)) _ _ (dI_nn (by omega)) (m17 i) (by omega) (e1.mpr c) ?_
      rw [dI_m, wi_wi]; exact kk
    · refine ⟨v, hl.no c, fun q X kk => ?_⟩
      show Lb _ _ _ _ _ _ [(0, .ref (xa τ 0)), (1, .int (dI (i + 1)))] _ _ _ _
      rw [dI_s]
      refine sg_M_faultOf_165_ft165 X (wi τ 0 2 (sI v)) _ _ (dI_nn (by omega)) (m17 i) (by omega) (Classical.byContradiction (fun q => c (e1.mp q))) ?_
      rw [dI_m, wi_self]; exact kk) (gR g) (-1) (Nat.le_refl _) (Low.start _ _)
/-- what faultOf leaves: the nothing array and the left array, where the grammar has no earlier fault -/
def MF (g : Gr) (kd : Nat) (fN fL : Nat → Int32) : Prop := (kd = 0 ∨ kd = 4) → (∀ i, i < 16 → fN i = pI (Nul g i)) ∧ (∀ y i, y < gR g → i < gR g → (¬ fL (16 * y + i) = 0 ↔ Lf g y i))
theorem si_4 (τ : St) : si (si τ 4 (xi τ 4)) 5 (xi τ 5) = τ := by
  rw [si_id]; exact si_id τ 5
theorem m_faultOf (G : GG) {g : Gr} {τ : St} (hw : WF g) (hg : GM g τ) :
    ∃ kd v fN fL, FaultIs g kd v ∧ MF g kd fN fL ∧ Ct y_M_faultOf c_M_faultOf 4 (some .int) rm_M_faultOf G [.ref (xa τ 0)] (WM G τ) (eqp (some (.int (nI kd))) (WM G (wi (si (si τ 4 fN) 5 fL) 0 2 (sI v)))) := by
  have h16 := hw.r
  by_cases c : gR g = 0
  · refine ⟨1, -1, xi τ 4, xi τ 5, .inl ⟨c, rfl, rfl⟩, (fun q => by omega), ?_⟩
    rw [si_4]
    refine Ct.of (by decide +kernel) (Nat.le_of_ble_eq_true rfl) (fun K X => ?_)
    exact sg_M_faultOf_0_fr X τ (by rw [hg.1, c]; rfl) ⟨rfl, rfl⟩
  · have c9 : ¬ xi τ 0 1 = 0 := by rw [hg.1, show (0 : Int32) = nI 0 from rfl, n_eq (by omega) (by omega)]; exact c
    have e1 : ∀ v, xi (wi τ 0 2 v) 0 1 - 1 = dI (gR g) := fun v => by rw [show xi (wi τ 0 2 v) 0 1 = xi τ 0 1 from rfl, hg.1, dI_n]
    have st : xi τ 0 1 - 1 = dI (gR g) := by rw [hg.1, dI_n]
    obtain ⟨v2, l2, j2⟩ := m_F2 G hw hg
    have b2 := l2.bd
    by_cases d2 : NoF (F2 g) (gR g)
    · have n2 : v2 < 0 := l2.neg.mpr d2
      have n2' : v2 = -1 := by omega
      subst n2'
      obtain ⟨v3, l3, j3⟩ := m_F3 G hw hg
      have b3 := l3.bd
      by_cases d3 : NoF (F3 g) (gR g)
      · have n3 : v3 < 0 := l3.neg.mpr d3
        have n3' : v3 = -1 := by omega
        subst n3'
        obtain ⟨fN, hN, tN⟩ := m_findNothing G (τ := wi τ 0 2 (sI (-1))) hw (hg.w _)
        obtain ⟨fL, hL, tL⟩ := m_findLeft G (τ := si (wi τ 0 2 (sI (-1))) 4 fN) hw (hg.of rfl rfl rfl rfl) (by rw [xi_si]; exact hN)
        obtain ⟨v4, l4, j4⟩ := m_F4 G (τ := si (si τ 4 fN) 5 fL) hw (hg.of rfl rfl rfl rfl) (by rw [xi_si]; exact hL)
        have b4 := l4.bd
        have es : si (si (wi τ 0 2 (sI (-1))) 4 fN) 5 fL = wi (si (si τ 4 fN) 5 fL) 0 2 (sI (-1)) := by
          rw [← si_wi _ (by decide), ← si_wi _ (by decide)]
        have fin : ∀ (K : KX) (X : Bd K G (WM G τ) "FirstTreesModel" c_M_faultOf 4 (some .int) rm_M_faultOf) (post : PostT), Lb K G (WM G τ) (Qe K G (WM G τ) post rm_M_faultOf) 4 165 [(0, .ref (xa τ 0)), (1, .int (dI 0))] [] (WM G (wi (si (si τ 4 fN) 5 fL) 0 2 (sI v4))) 0 0 →
            Lb K G (WM G τ) (Qe K G (WM G τ) post rm_M_faultOf) 4 0 [(0, .ref (xa τ 0))] [] (WM G τ) 0 0 := by
          intro K X post k
          refine sg_M_faultOf_0_t21 X τ c9 ?_
          rw [st]
          refine j2 (K, _, _) X ?_
          refine sg_M_faultOf_21_tt110 X (wi τ 0 2 (sI (-1))) _ dI_0 m1lt ?_
          rw [e1]
          refine j3 (K, _, _) X ?_
          refine sg_M_faultOf_110_tt165 X (wi τ 0 2 (sI (-1))) _ (si (wi τ 0 2 (sI (-1))) 4 fN).2 (si (si (wi τ 0 2 (sI (-1))) 4 fN) 5 fL).2 dI_0 m1lt tN tL ?_
          show Lb _ _ _ _ _ _ [(0, .ref (xa τ 0)), (1, .int (xi (si (si (wi τ 0 2 (sI (-1))) 4 fN) 5 fL) 0 1 - 1))] _ (WM G (si (si (wi τ 0 2 (sI (-1))) 4 fN) 5 fL)) _ _
          rw [es, show xi (wi (si (si τ 4 fN) 5 fL) 0 2 (sI (-1))) 0 1 = xi τ 0 1 from rfl, st]
          exact j4 (K, _, _) X k
        by_cases d4 : NoF (F4 g) (gR g)
        · have n4 : v4 < 0 := l4.neg.mpr d4
          have n4' : v4 = -1 := by omega
          subst n4'
          refine ⟨0, -1, fN, fL, .inr (.inr (.inr (.inr ⟨c, d2, d3, d4, rfl, rfl⟩))), fun _ => ⟨hN, hL⟩, ?_⟩
          refine Ct.of (by decide +kernel) (Nat.le_of_ble_eq_true rfl) (fun K X => ?_)
          exact fin K X _ (sg_M_faultOf_165_ttr X (wi (si (si τ 4 fN) 5 fL) 0 2 (sI (-1))) _ dI_0 m1lt ⟨rfl, rfl⟩)
        · refine ⟨4, v4, fN, fL, .inr (.inr (.inr (.inl ⟨c, d2, d3, d4, rfl, l4⟩))), fun _ => ⟨hN, hL⟩, ?_⟩
          refine Ct.of (by decide +kernel) (Nat.le_of_ble_eq_true rfl) (fun K X => ?_)
          refine fin K X _ (sg_M_faultOf_165_tfr X (wi (si (si τ 4 fN) 5 fL) 0 2 (sI v4)) _ dI_0 ?_ ⟨rfl, rfl⟩)
          show ¬ sI v4 < 0
          rw [z_lt (by omega) (by omega)]; exact fun q => d4 (l4.neg.mp q)
      · refine ⟨3, v3, xi τ 4, xi τ 5, .inr (.inr (.inl ⟨c, d2, d3, rfl, l3⟩)), (fun q => by omega), ?_⟩
        rw [si_4]
        refine Ct.of (by decide +kernel) (Nat.le_of_ble_eq_true rfl) (fun K X => ?_)
        refine sg_M_faultOf_0_t21 X τ c9 ?_
        rw [st]
        refine j2 (K, _, _) X ?_
        refine sg_M_faultOf_21_tt110 X (wi τ 0 2 (sI (-1))) _ dI_0 m1lt ?_
        rw [e1]
        refine j3 (K, _, _) X ?_
        refine sg_M_faultOf_110_tfr X (wi τ 0 2 (sI v3)) _ dI_0 ?_ ⟨rfl, rfl⟩
        show ¬ sI v3 < 0
        rw [z_lt (by omega) (by omega)]; exact fun q => d3 (l3.neg.mp q)
    · refine ⟨2, v2, xi τ 4, xi τ 5, .inr (.inl ⟨c, d2, rfl, l2⟩), (fun q => by omega), ?_⟩
      rw [si_4]
      refine Ct.of (by decide +kernel) (Nat.le_of_ble_eq_true rfl) (fun K X => ?_)
      refine sg_M_faultOf_0_t21 X τ c9 ?_
      rw [st]
      refine j2 (K, _, _) X ?_
      refine sg_M_faultOf_21_tfr X (wi τ 0 2 (sI v2)) _ dI_0 ?_ ⟨rfl, rfl⟩
      show ¬ sI v2 < 0
      rw [z_lt (by omega) (by omega)]; exact fun q => d2 (l2.neg.mp q)
