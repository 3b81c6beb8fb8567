/-! the reference's findLeft -/
theorem m_fL_row (G : GG) {g : Gr} {τ : St} (hw : WF g) (hg : GM g τ) (hN : ∀ i, i < 16 → xi τ 4 i = pI (Nul g i)) {x a : Nat} (hx : x < gR g) (ha : a < gA g x) (D : Nat → Nat → Prop) (f : Nat → Int32)
    (hf : ∀ y i, y < 16 → i < 16 → (¬ f (16 * y + i) = 0 ↔ D y i)) :
    ∃ f', (∀ y i, y < 16 → i < 16 → (¬ f' (16 * y + i) = 0 ↔ (D y i ∨ (y = x ∧ atL g (8 * x + a) i)))) ∧ ∀ q, (fun q : KQ => Bd q.1 G q.2.1 "FirstTreesModel" c_M_findLeft 6 none rm_M_findLeft) q →
      Lb q.1 G q.2.1 q.2.2 6 34 [(0, .ref (xa τ 0)), (1, .int (nI x)), (2, .int (nI (a + 1)))] [] (WM G (si τ 5 f')) 0 0 →
      Lb q.1 G q.2.1 q.2.2 6 49 [(0, .ref (xa τ 0)), (1, .int (nI x)), (2, .int (nI a)), (3, .int 1), (4, .int (nI 0))] [] (WM G (si τ 5 f)) 0 0 := by
  have h16 := hw.r
  have h8 := hw.a x
  have hl := hw.l (8 * x + a)
  have hr : 8 * x + a < 128 := by omega
  obtain ⟨⟨f', b⟩, h1, h2⟩ := iterL (C := fun q : KQ => Bd q.1 G q.2.1 "FirstTreesModel" c_M_findLeft 6 none rm_M_findLeft) (gL g (8 * x + a)) (fun k (s : (Nat → Int32) × Int32) => s.2 = pI (∀ j, j < k → nulS g (gY g (8 * x + a) j)) ∧
      ∀ y i, y < 16 → i < 16 → (¬ s.1 (16 * y + i) = 0 ↔ (D y i ∨ (y = x ∧ ∃ j, j < k ∧ gY g (8 * x + a) j < 0 ∧ rl (gY g (8 * x + a) j) = i ∧ ∀ j', j' < j → nulS g (gY g (8 * x + a) j')))))
    (fun q k s => Lb q.1 G q.2.1 q.2.2 6 49 [(0, .ref (xa τ 0)), (1, .int (nI x)), (2, .int (nI a)), (3, .int s.2), (4, .int (nI k))] [] (WM G (si τ 5 s.1)) 0 0) (by
    intro k ⟨f, b⟩ hk ⟨hb, hf⟩
    have hb : b = _ := hb
    have hy := hw.y (8 * x + a) k
    have h16' := hw.rl (8 * x + a) k
    have e54 := m8 x a
    have e65 := m64 x a k
    have c57 : ¬ xi (si τ 5 f) 2 (8 * x + a) ≤ nI k := by rw [show xi (si τ 5 f) 2 = xi τ 2 from rfl, hg.2.2.1 _ hr, n_le (by omega) (by omega)]; omega
    have ek : xi (si τ 5 f) 3 (8 * (8 * x + a) + k) = sI (gY g (8 * x + a) k) := hg.2.2.2 _ (by omega)
    have nx : ∀ P : Prop, ((∀ j, j < k → nulS g (gY g (8 * x + a) j)) ∧ nulS g (gY g (8 * x + a) k) ↔ P) → pI P = pI (∀ j, j < k + 1 → nulS g (gY g (8 * x + a) j)) := by
      intro P hP
      congr 1
      rw [← hP]
      apply propext
      constructor
      · intro z j hj
        by_cases e : j = k
        · rw [e]; exact z.2
        · exact z.1 j (by omega)
      · intro z; exact ⟨fun j hj => z j (by omega), z k (by omega)⟩
    have fs : ¬ ((∀ j, j < k → nulS g (gY g (8 * x + a) j)) ∧ gY g (8 * x + a) k < 0) → ∀ y i, y < 16 → i < 16 → (¬ f (16 * y + i) = 0 ↔ (D y i ∨ (y = x ∧ ∃ j, j < k + 1 ∧ gY g (8 * x + a) j < 0 ∧ rl (gY g (8 * x + a) j) = i ∧ ∀ j', j' < j → nulS g (gY g (8 * x + a) j')))) := by
      intro hn y i h1 h2
      rw [hf y i h1 h2]
      constructor
      · rintro (h | ⟨e, j, h3, h4⟩)
        · exact .inl h
        · exact .inr ⟨e, j, by omega, h4⟩
      · rintro (h | ⟨e, j, h3, h4, h5, h6⟩)
        · exact .inl h
        · by_cases q : j = k
          · subst q; exact absurd ⟨h6, h4⟩ hn
          · exact .inr ⟨e, j, by omega, h4, h5, h6⟩
    by_cases c71 : ∀ j, j < k → nulS g (gY g (8 * x + a) j)
    · rw [pI_t c71] at hb
      subst hb
      by_cases c : gY g (8 * x + a) k < 0
      · have e79 : ¬ b2i (decide (xi (si τ 5 f) 3 (8 * (8 * x + a) + k) < 0)) = 0 := by rw [ek, isr_1 hy.1 hy.2 c]; decide
        have e96 : 16 * nI x - 1 - xi (si τ 5 f) 3 (8 * (8 * x + a) + k) = nI (16 * x + rl (gY g (8 * x + a) k)) := by rw [ek, m16s x c]
        have e117 : (-1 : Int32) - xi (si τ 5 f) 3 (8 * (8 * x + a) + k) = nI (rl (gY g (8 * x + a) k)) := by rw [ek, rl_sI c]
        have fs' : ∀ y i, y < 16 → i < 16 → (¬ (upd f (16 * x + rl (gY g (8 * x + a) k)) 1) (16 * y + i) = 0 ↔ (D y i ∨ (y = x ∧ ∃ j, j < k + 1 ∧ gY g (8 * x + a) j < 0 ∧ rl (gY g (8 * x + a) j) = i ∧ ∀ j', j' < j → nulS g (gY g (8 * x + a) j')))) := by
          intro y i h1 h2
          by_cases e : 16 * y + i = 16 * x + rl (gY g (8 * x + a) k)
          · rw [e, upd_at]
            exact ⟨fun _ => .inr ⟨by omega, k, by omega, c, by omega, c71⟩, fun _ => by decide⟩
          · rw [upd_ne _ _ e, hf y i h1 h2]
            constructor
            · rintro (h | ⟨e, j, h3, h4⟩)
              · exact .inl h
              · exact .inr ⟨e, j, by omega, h4⟩
            · rintro (h | ⟨e2, j, h3, h4, h5, h6⟩)
              · exact .inl h
              · by_cases q : j = k
                · subst q; subst e2; subst h5; exact absurd rfl e
                · exact .inr ⟨e2, j, by omega, h4, h5, h6⟩
        by_cases d : Nul g (rl (gY g (8 * x + a) k))
        · refine ⟨(upd f (16 * x + rl (gY g (8 * x + a) k)) 1, 1), ⟨?_, fs'⟩, fun q X kk => ?_⟩
          · rw [← nx True ⟨fun _ => trivial, fun _ => ⟨c71, c, d⟩⟩, pI_t trivial]
          · refine sg_M_findLeft_49_ffffff49 X (si τ 5 f) _ _ _ _ _ _ _ _ e54 hr c57 e65 (by omega) i1n0 e79 e96 (by omega) i1n0 e79 e117 h16' ?_ ?_
            · rw [show xi (si τ 5 f) 4 = xi τ 4 from rfl, hN _ h16', pI_t d]; decide
            · rw [n_s, wi_si]; exact kk
        · refine ⟨(upd f (16 * x + rl (gY g (8 * x + a) k)) 1, 0), ⟨?_, fs'⟩, fun q X kk => ?_⟩
          · rw [← nx False ⟨fun z => d z.2.2, False.elim⟩, pI_f (fun h => h)]
          · refine sg_M_findLeft_49_ffffft49 X (si τ 5 f) _ _ _ _ _ _ _ _ e54 hr c57 e65 (by omega) i1n0 e79 e96 (by omega) i1n0 e79 e117 h16' ?_ ?_
            · rw [show xi (si τ 5 f) 4 = xi τ 4 from rfl, hN _ h16', pI_f d]
            · rw [n_s, wi_si]; exact kk
      · have e79 : b2i (decide (xi (si τ 5 f) 3 (8 * (8 * x + a) + k) < 0)) = 0 := by rw [ek, isr_0 hy.1 hy.2 c]
        refine ⟨(f, 0), ⟨?_, fs (fun z => c z.2)⟩, fun q X kk => ?_⟩
        · rw [← nx False ⟨fun z => c z.2.1, False.elim⟩, pI_f (fun h => h)]
        · refine sg_M_findLeft_49_fftft49 X (si τ 5 f) _ _ _ _ _ _ e54 hr c57 e65 (by omega) i1n0 e79 i1n0 e79 ?_
          rw [n_s]; exact kk
    · rw [pI_f c71] at hb
      subst hb
      refine ⟨(f, 0), ⟨?_, fs (fun z => c71 z.1)⟩, fun q X kk => ?_⟩
      · rw [← nx False ⟨fun z => c71 z.1, False.elim⟩, pI_f (fun h => h)]
      · refine sg_M_findLeft_49_ftt49 X (si τ 5 f) _ _ _ _ _ _ e54 hr c57 e65 (by omega) rfl rfl ?_
        rw [n_s]; exact kk) 0 (f, 1) (Nat.zero_le _) ⟨(pI_t (fun j hj => absurd hj (Nat.not_lt_zero j))).symm, fun y i h1 h2 => by
      rw [hf y i h1 h2]
      exact ⟨.inl, fun z => z.elim id (fun ⟨_, j, h, _⟩ => absurd h (Nat.not_lt_zero j))⟩⟩
  refine ⟨f', fun y i hy hi => ?_, fun q X k => h2 q X ?_⟩
  · rw [h1.2 y i hy hi]; rfl
  · refine sg_M_findLeft_49_t34 X (si τ 5 f') _ _ _ _ _ (m8 x a) hr ?_ ?_
    · rw [show xi (si τ 5 f') 2 = xi τ 2 from rfl, hg.2.2.1 _ hr, n_le (by omega) (by omega)]; omega
    · rw [n_s]; exact k

theorem m_findLeft1 (G : GG) {g : Gr} {τ : St} (hw : WF g) (hg : GM g τ) (hN : ∀ i, i < 16 → xi τ 4 i = pI (Nul g i)) :
    ∃ f, (∀ y i, y < 16 → i < 16 → (¬ f (16 * y + i) = 0 ↔ (y < gR g ∧ Lf0 g y i))) ∧ ∀ q, (fun q : KQ => Bd q.1 G q.2.1 "FirstTreesModel" c_M_findLeft 6 none rm_M_findLeft) q →
      Lb q.1 G q.2.1 q.2.2 6 147 [(0, .ref (xa τ 0)), (1, .int (nI 0))] [] (WM G (si τ 5 f)) 0 0 → Lb q.1 G q.2.1 q.2.2 6 2 [(0, .ref (xa τ 0)), (1, .int (nI 0))] [] (WM G τ) 0 0 := by
  have h16 := hw.r
  obtain ⟨f0, h0, k0⟩ := iterL (C := fun q : KQ => Bd q.1 G q.2.1 "FirstTreesModel" c_M_findLeft 6 none rm_M_findLeft) 256 (fun i f => ∀ j, j < i → f j = 0) (fun q i f => Lb q.1 G q.2.1 q.2.2 6 2 [(0, .ref (xa τ 0)), (1, .int (nI i))] [] (WM G (si τ 5 f)) 0 0) (by
    intro i f hi hf
    refine ⟨upd f i 0, fun j hj => ?_, fun q X k => ?_⟩
    · by_cases e : j = i
      · rw [e, upd_at]
      · rw [upd_ne f _ e]; exact hf j (by omega)
    · refine sg_M_findLeft_2_f2 X (si τ 5 f) _ i (by rw [show (256 : Int32) = nI 256 from rfl, n_le (by omega) (by omega)]; omega) rfl hi ?_
      rw [n_s, wi_si]; exact k) 0 (xi τ 5) (Nat.zero_le _) (fun j hj => by omega)
  simp only [si_id] at k0
  obtain ⟨f, h1, k1⟩ := iterL (C := fun q : KQ => Bd q.1 G q.2.1 "FirstTreesModel" c_M_findLeft 6 none rm_M_findLeft) (gR g) (fun x f => ∀ y i, y < 16 → i < 16 → (¬ f (16 * y + i) = 0 ↔ (y < x ∧ Lf0 g y i)))
    (fun q x f => Lb q.1 G q.2.1 q.2.2 6 24 [(0, .ref (xa τ 0)), (1, .int (nI x))] [] (WM G (si τ 5 f)) 0 0) (by
    intro x f hx hf
    have h8 := hw.a x
    have c29 : ¬ xi (si τ 5 f) 0 1 ≤ nI x := by rw [show xi (si τ 5 f) 0 1 = xi τ 0 1 from rfl, hg.1, n_le (by omega) (by omega)]; omega
    obtain ⟨f2, h3, h4⟩ := iterL (C := fun q : KQ => Bd q.1 G q.2.1 "FirstTreesModel" c_M_findLeft 6 none rm_M_findLeft) (gA g x) (fun a f => ∀ y i, y < 16 → i < 16 → (¬ f (16 * y + i) = 0 ↔ ((y < x ∧ Lf0 g y i) ∨ (y = x ∧ ∃ b, b < a ∧ atL g (8 * x + b) i))))
      (fun q a f => Lb q.1 G q.2.1 q.2.2 6 34 [(0, .ref (xa τ 0)), (1, .int (nI x)), (2, .int (nI a))] [] (WM G (si τ 5 f)) 0 0) (by
      intro a f ha hf
      have c41 : ¬ xi (si τ 5 f) 1 x ≤ nI a := by rw [show xi (si τ 5 f) 1 = xi τ 1 from rfl, hg.2.1 x (by omega), n_le (by omega) (by omega)]; omega
      obtain ⟨f', h5, h6⟩ := m_fL_row G hw hg hN hx ha _ f hf
      refine ⟨f', fun y i hy hi => ?_, fun q X k => ?_⟩
      · rw [h5 y i hy hi]
        constructor
        · rintro ((h | ⟨h, b, h1, h2⟩) | ⟨h, h2⟩)
          · exact .inl h
          · exact .inr ⟨h, b, by omega, h2⟩
          · exact .inr ⟨h, a, by omega, h2⟩
        · rintro (h | ⟨h, b, h1, h2⟩)
          · exact .inl (.inl h)
          · by_cases e : b = a
            · subst e; exact .inr ⟨h, h2⟩
            · exact .inl (.inr ⟨h, b, by omega, h2⟩)
      · exact sg_M_findLeft_34_f49 X (si τ 5 f) _ _ x rfl (by omega) c41 (h6 q X k)) 0 f (Nat.zero_le _) (fun y i hy hi => by
        rw [hf y i hy hi]
        exact ⟨.inl, fun z => z.elim id (fun ⟨_, b, h, _⟩ => absurd h (Nat.not_lt_zero b))⟩)
    refine ⟨f2, fun y i hy hi => ?_, fun q X k => ?_⟩
    · rw [h3 y i hy hi]
      constructor
      · rintro (h | ⟨h, b, h1, h2⟩)
        · exact ⟨by omega, h.2⟩
        · subst h; exact ⟨by omega, b, h1, h2⟩
      · rintro ⟨h, h2⟩
        by_cases e : y = x
        · subst e; exact .inr ⟨rfl, h2⟩
        · exact .inl ⟨by omega, h2⟩
    · refine sg_M_findLeft_24_f34 X (si τ 5 f) _ c29 (h4 q X ?_)
      refine sg_M_findLeft_34_t24 X (si τ 5 f2) _ _ x rfl (by omega) ?_ ?_
      · rw [show xi (si τ 5 f2) 1 = xi τ 1 from rfl, hg.2.1 x (by omega), n_le (by omega) (by omega)]; omega
      · rw [n_s]; exact k) 0 f0 (Nat.zero_le _) (fun y i hy hi => ⟨fun q => absurd (h0 _ (by omega)) q, fun q => absurd q.1 (Nat.not_lt_zero y)⟩)
  refine ⟨f, h1, fun q X k => k0 q X ?_⟩
  refine sg_M_findLeft_2_t24 X (si τ 5 f0) _ (by rw [show (256 : Int32) = nI 256 from rfl, n_le (by omega) (by omega)]; omega) (k1 q X ?_)
  refine sg_M_findLeft_24_t147 X (si τ 5 f) _ ?_ k
  rw [show xi (si τ 5 f) 0 1 = xi τ 0 1 from rfl, hg.1, n_le (by omega) (by omega)]; omega
theorem m_findLeft (G : GG) {g : Gr} {τ : St} (hw : WF g) (hg : GM g τ) (hN : ∀ i, i < 16 → xi τ 4 i = pI (Nul g i)) :
    ∃ f, (∀ y i, y < gR g → i < gR g → (¬ f (16 * y + i) = 0 ↔ Lf g y i)) ∧ Ct y_M_findLeft c_M_findLeft 6 none rm_M_findLeft G [.ref (xa τ 0)] (WM G τ) (eqp none (WM G (si τ 5 f))) := by
  have h16 := hw.r
  obtain ⟨f1, h1, k1⟩ := m_findLeft1 G hw hg hN
  obtain ⟨f2, h2, k2⟩ := iterL (C := fun q : KQ => Bd q.1 G q.2.1 "FirstTreesModel" c_M_findLeft 6 none rm_M_findLeft) (gR g) (fun z f => ∀ y i, y < gR g → i < gR g → (¬ f (16 * y + i) = 0 ↔ Wl g z y i))
    (fun q z f => Lb q.1 G q.2.1 q.2.2 6 147 [(0, .ref (xa τ 0)), (1, .int (nI z))] [] (WM G (si τ 5 f)) 0 0) (by
    intro z f hz hf
    have c152 : ¬ xi (si τ 5 f) 0 1 ≤ nI z := by rw [show xi (si τ 5 f) 0 1 = xi τ 0 1 from rfl, hg.1, n_le (by omega) (by omega)]; omega
    obtain ⟨f2, h3, h4⟩ := iterL (C := fun q : KQ => Bd q.1 G q.2.1 "FirstTreesModel" c_M_findLeft 6 none rm_M_findLeft) (gR g) (fun y f => ∀ r i, r < gR g → i < gR g → (¬ f (16 * r + i) = 0 ↔ if r < y then Wl g (z + 1) r i else Wl g z r i))
      (fun q y f => Lb q.1 G q.2.1 q.2.2 6 157 [(0, .ref (xa τ 0)), (1, .int (nI z)), (2, .int (nI y))] [] (WM G (si τ 5 f)) 0 0) (by
      intro y f hy hf
      have c162 : ¬ xi (si τ 5 f) 0 1 ≤ nI y := by rw [show xi (si τ 5 f) 0 1 = xi τ 0 1 from rfl, hg.1, n_le (by omega) (by omega)]; omega
      obtain ⟨f3, h5, h6⟩ := iterL (C := fun q : KQ => Bd q.1 G q.2.1 "FirstTreesModel" c_M_findLeft 6 none rm_M_findLeft) (gR g) (fun x f => ∀ r i, r < gR g → i < gR g → (¬ f (16 * r + i) = 0 ↔ if r < y ∨ (r = y ∧ i < x) then Wl g (z + 1) r i else Wl g z r i))
        (fun q x f => Lb q.1 G q.2.1 q.2.2 6 167 [(0, .ref (xa τ 0)), (1, .int (nI z)), (2, .int (nI y)), (3, .int (nI x))] [] (WM G (si τ 5 f)) 0 0) (by
        intro x f hx hf
        have c172 : ¬ xi (si τ 5 f) 0 1 ≤ nI x := by rw [show xi (si τ 5 f) 0 1 = xi τ 0 1 from rfl, hg.1, n_le (by omega) (by omega)]; omega
        have e195 := m16 y x
        have e209 := m16 y z
        have e223 := m16 z x
        have p1 : ¬ f (16 * y + x) = 0 ↔ Wl g z y x := by rw [hf y x hy hx, if_neg (by omega)]
        have p2 : ¬ f (16 * y + z) = 0 ↔ Wl g z y z := by
          rw [hf y z hy hz]
          split
          · exact Wl_col
          · exact Iff.rfl
        have p3 : ¬ f (16 * z + x) = 0 ↔ Wl g z z x := by
          rw [hf z x hz hx]
          split
          · exact Wl_row
          · exact Iff.rfl
        have nx : ∀ v : Int32, (¬ v = 0 ↔ Wl g (z + 1) y x) → ∀ r i, r < gR g → i < gR g → (¬ (upd f (16 * y + x) v) (16 * r + i) = 0 ↔ if r < y ∨ (r = y ∧ i < x + 1) then Wl g (z + 1) r i else Wl g z r i) := by
          intro v hv r i hr hi
          by_cases e : 16 * r + i = 16 * y + x
          · have e1 : r = y := by omega
            have e2 : i = x := by omega
            subst e1; subst e2
            rw [upd_at, if_pos (by omega)]; exact hv
          · rw [upd_ne _ _ e, hf r i hr hi]
            by_cases q : r < y ∨ (r = y ∧ i < x)
            · rw [if_pos q, if_pos (by omega)]
            · rw [if_neg q, if_neg (by omega)]
        by_cases c1 : Wl g z y x
        · refine ⟨_, nx 1 ⟨fun _ => .inl c1, fun _ => i1n0⟩, fun q X k => ?_⟩
          refine sg_M_findLeft_167_ft167 X (si τ 5 f) _ _ _ _ c172 e195 (by omega) (p1.mpr c1) ?_
          rw [n_s, wi_si]; exact k
        · have n1 : f (16 * y + x) = 0 := Classical.byContradiction (fun q => c1 (p1.mp q))
          by_cases c2 : Wl g z y z
          · by_cases c3 : Wl g z z x
            · refine ⟨_, nx 1 ⟨fun _ => .inr ⟨c2, c3⟩, fun _ => i1n0⟩, fun q X k => ?_⟩
              refine sg_M_findLeft_167_ffff167 X (si τ 5 f) _ _ _ _ _ _ c172 e195 (by omega) n1 e209 (by omega) (p2.mpr c2) e223 (by omega) (p3.mpr c3) ?_
              rw [n_s, wi_si]; exact k
            · refine ⟨_, nx 0 ⟨fun q => absurd rfl q, fun q => q.elim (fun q => absurd q c1) (fun q => absurd q.2 c3)⟩, fun q X k => ?_⟩
              refine sg_M_findLeft_167_ffft167 X (si τ 5 f) _ _ _ _ _ _ c172 e195 (by omega) n1 e209 (by omega) (p2.mpr c2) e223 (by omega) (Classical.byContradiction (fun q => c3 (p3.mp q))) ?_
              rw [n_s, wi_si]; exact k
          · refine ⟨_, nx 0 ⟨fun q => absurd rfl q, fun q => q.elim (fun q => absurd q c1) (fun q => absurd q.1 c2)⟩, fun q X k => ?_⟩
            refine sg_M_findLeft_167_fft167 X (si τ 5 f) _ _ _ _ _ c172 e195 (by omega) n1 e209 (by omega) (Classical.byContradiction (fun q => c2 (p2.mp q))) ?_
            rw [n_s, wi_si]; exact k) 0 f (Nat.zero_le _) (fun r i hr hi => by
          rw [hf r i hr hi]
          by_cases q : r < y
          · rw [if_pos q, if_pos (.inl q)]
          · rw [if_neg q, if_neg (by omega)])
      refine ⟨f3, fun r i hr hi => ?_, fun q X k => ?_⟩
      · rw [h5 r i hr hi]
        by_cases q : r < y + 1
        · rw [if_pos q, if_pos (by omega)]
        · rw [if_neg q, if_neg (by omega)]
      · refine sg_M_findLeft_157_f167 X (si τ 5 f) _ _ c162 (h6 q X ?_)
        refine sg_M_findLeft_167_t157 X (si τ 5 f3) _ _ _ ?_ ?_
        · rw [show xi (si τ 5 f3) 0 1 = xi τ 0 1 from rfl, hg.1, n_le (by omega) (by omega)]; omega
        · rw [n_s]; exact k) 0 f (Nat.zero_le _) (fun r i hr hi => by rw [if_neg (by omega)]; exact hf r i hr hi)
    refine ⟨f2, fun r i hr hi => by rw [h3 r i hr hi, if_pos hr], fun q X k => ?_⟩
    refine sg_M_findLeft_147_f157 X (si τ 5 f) _ c152 (h4 q X ?_)
    refine sg_M_findLeft_157_t147 X (si τ 5 f2) _ _ ?_ ?_
    · rw [show xi (si τ 5 f2) 0 1 = xi τ 0 1 from rfl, hg.1, n_le (by omega) (by omega)]; omega
    · rw [n_s]; exact k) 0 f1 (Nat.zero_le _) (fun y i hy hi => by rw [h1 y i (by omega) (by omega)]; exact ⟨fun q => q.2, fun q => ⟨hy, q⟩⟩)
  refine ⟨f2, h2, ?_⟩
  refine Ct.of (by decide +kernel) (Nat.le_of_ble_eq_true rfl) (fun K X => ?_)
  refine sg_M_findLeft_0_2 X τ (k1 (K, _, _) X (k2 (K, _, _) X ?_))
  exact sg_M_findLeft_147_tr X (si τ 5 f2) _ (by rw [show xi (si τ 5 f2) 0 1 = xi τ 0 1 from rfl, hg.1, n_le (by omega) (by omega)]; omega) ⟨rfl, rfl⟩
