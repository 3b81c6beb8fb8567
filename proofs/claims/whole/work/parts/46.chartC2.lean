/-- the entry of a row from q is right -/
def okR (g : Gr) (T : Nat → Int) (e : Nat) (σ : St) (row q : Nat) : Prop := (∀ i, tb (xl σ 14 (61 * row + q)) i = true ↔ Run g T e row (gL g row) q i) ∧ xi σ 15 (61 * row + q) = nI (rfar g T e row (gL g row) q)
def inP (T : Nat → Int) (e : Nat) (σ : St) : Prop := ∀ t : Nat, t < 32 → ∀ i, tb (xl σ 13 t) i = true ↔ (i < e ∧ T i = t)
theorem k_readRow (G : GG) {g : Gr} {T : Nat → Int} {e : Nat} {σ : St} (hw : WF g) (hg : GC g σ) (he : e ≤ 60) (hP : inP T e σ) {row p : Nat} (hr : row < 128) (hp : p ≤ e)
    (hok : ∀ k, k < gL g row → ∀ m, Run g T e row k p m → gY g row k < 0 → rl (gY g row k) < gR g ∧ okT g T e σ (rl (gY g row k)) m) (hE : xi σ 12 0 = nI e) :
    ∃ s : Sq, (xi (xa σ, s) 12 0 = nI e ∧ xi (xa σ, s) 12 1 = nI (rfar g T e row (gL g row) p) ∧ (∀ i, tb (xl (xa σ, s) 12 0) i = true ↔ Run g T e row (gL g row) p i) ∧
      (∀ t : Nat, tb (xl (xa σ, s) 12 1) t = true ↔ rowS g T e row (gL g row) p t) ∧ Fr (inR 12 12) σ (xa σ, s)) ∧ Ct y_C_readRow c_C_readRow 5 none rm_C_readRow G [.ref (xa σ 12), .int (nI row), .int (nI p)] (WC G σ) (eqp none (WC G (xa σ, s))) := by
  have hl := hw.l row
  refine exE (iterE (α := Sq) (β := Sq) (C := fun q : KP => Bd q.1 G q.2.1 "FirstTrees$Chart" c_C_readRow 5 none rm_C_readRow) (gL g row)
    (fun k s => xi (xa σ, s) 12 0 = nI e ∧ xi (xa σ, s) 12 1 = nI (rfar g T e row k p) ∧ (∀ i, tb (xl (xa σ, s) 12 0) i = true ↔ Run g T e row k p i) ∧
      (∀ t : Nat, tb (xl (xa σ, s) 12 1) t = true ↔ rowS g T e row k p t) ∧ Fr (inR 12 12) σ (xa σ, s))
    (fun q k s => Lb q.1 G q.2.1 (Qe q.1 G q.2.1 q.2.2 rm_C_readRow) 5 19 [(0, .ref (xa σ 12)), (1, .int (nI row)), (2, .int (nI p)), (3, .int (nI k))] [] (WC G (xa σ, s)) 0 0)
    (fun s : Sq => xi (xa σ, s) 12 0 = nI e ∧ xi (xa σ, s) 12 1 = nI (rfar g T e row (gL g row) p) ∧ (∀ i, tb (xl (xa σ, s) 12 0) i = true ↔ Run g T e row (gL g row) p i) ∧
      (∀ t : Nat, tb (xl (xa σ, s) 12 1) t = true ↔ rowS g T e row (gL g row) p t) ∧ Fr (inR 12 12) σ (xa σ, s)) (fun q s => q.2.2 none (WC G (xa σ, s))) ?_ ?_ 0
    (wl (wi (wl σ 12 0 (shlL 1 (nI p))) 12 1 (nI p)) 12 1 0).2 (Nat.zero_le _) ⟨hE, ?_, ?_, ?_, (((Fr.refl _ σ).l (by decide) _ _).i (by decide) _ _).l (by decide) _ _⟩) (fun s h1 k1 => ?_)
  · intro k s hk ⟨h0, h1, h2, h3, h4⟩
    have hg' : GC g (xa σ, s) := hg.fr h4 (by decide)
    have hP' : inP T e (xa σ, s) := by unfold inP; rw [h4.el 13 (by decide)]; exact hP
    have c28 : ¬ xi (xa σ, s) 3 row ≤ nI k := by rw [hg'.2.2.1 row hr, n_le (by omega) (by omega)]; omega
    by_cases c : xl (xa σ, s) 12 0 = 0
    · have hno : ∀ q, ¬ Run g T e row k p q := fun q w => by
        have := tb_z.mp c q
        rw [(h2 q).mpr w] at this; cases this
      obtain ⟨d, hd⟩ : ∃ d, gL g row = k + d := ⟨gL g row - k, by omega⟩
      refine .inl ⟨s, ⟨h0, ?_, ?_, ?_, h4⟩, fun q X kk => sg_C_readRow_19_ftr X (xa σ, s) _ _ _ row rfl hr c28 c kk⟩
      · rw [h1, hd]; congr 1; exact mx_congr (fun m => (rowT_none hno d).symm) e
      · intro i; rw [h2, hd]; exact ⟨fun w => absurd w (hno i), fun w => absurd w (Run_none hno d i)⟩
      · intro t; rw [h3, hd]; exact (rowS_none hno d).symm
    · have hy := hw.y row k
      have ek : xi (xa σ, s) 4 (8 * row + k) = sI (gY g row k) := hg'.2.2.2 _ (by omega)
      have hb : ∀ i, Run g T e row k p i → p ≤ i ∧ i ≤ e := fun i w => ⟨(Run_bd hp w).1, (Run_bd hp w).2.1⟩
      have hfb : rfar g T e row k p ≤ e := mx_le _ _
      by_cases d : gY g row k < 0
      · by_cases hy' : ∃ m, Run g T e row k p m
        · obtain ⟨m0, hm0⟩ := hy'
          obtain ⟨hyR, _⟩ := hok k hk m0 hm0 d
          obtain ⟨s', ⟨a0, a1, a2, a3, a4⟩, t⟩ := k_readRule G (σ := (xa σ, s)) he hyR (hw.rl row k) hp (Run g T e row k p) h2 hb (fun i w => (hok k hk i w d).2.fr h4 (by decide)) h0 h1 hfb
          refine .inr ⟨s', ⟨a0, ?_, ?_, ?_, h4.trans a4⟩, fun q X kk => ?_⟩
          · rw [a1]; congr 1
            unfold rfar
            rw [mx_join hp rowT_self]
            refine mx_congr (fun m => ?_) e
            rw [rowT_s]
            constructor
            · rintro (w | ⟨q, w1, w2⟩)
              · exact .inl w
              · exact .inr (.inr ⟨d, q, w1, w2⟩)
            · rintro (w | ⟨q, w1, w2⟩ | ⟨_, q, w1, w2⟩)
              · exact .inl w
              · rcases w2 with w2 | w2
                · omega
                · exact .inr ⟨q, w1, Tc_of_En w2.2⟩
              · exact .inr ⟨q, w1, w2⟩
          · intro i; rw [a2, Run_s]
            constructor
            · rintro ⟨q, w1, w2⟩; exact ⟨q, w1, .inr ⟨d, w2⟩⟩
            · rintro ⟨q, w1, w2 | w2⟩
              · omega
              · exact ⟨q, w1, w2.2⟩
          · intro t; rw [a3, h3, rowS_s]
            constructor
            · rintro (w | ⟨q, w1, w2⟩)
              · exact .inl w
              · exact .inr ⟨q, w1, .inr ⟨d, w2⟩⟩
            · rintro (w | ⟨q, w1, w2 | w2⟩)
              · exact .inl w
              · omega
              · exact .inr ⟨q, w1, w2.2⟩
          · refine sg_C_readRow_19_fft19 X (xa σ, s) _ _ _ row (8 * row + k) s' rfl hr c28 c (n8 row k) (by omega) (by rw [ek]; exact tok_0 hy.1 hy.2 d) (by rw [ek, rl_sI d]; exact t) ?_
            rw [n_s]; exact kk
        · exact absurd (tb_z.mpr (fun i => by rw [← Bool.not_eq_true, h2]; exact fun w => hy' ⟨i, w⟩)) c
      · obtain ⟨s', ⟨a0, a1, a2, a3, a4⟩, t⟩ := k_readToken G (σ := (xa σ, s)) he hP' (z := gY g row k) (by omega) hy.2 (Run g T e row k p) h2 (fun i w => (hb i w).2) h0 h1 hfb
        refine .inr ⟨s', ⟨a0, ?_, ?_, ?_, h4.trans a4⟩, fun q X kk => ?_⟩
        · rw [a1]; congr 1
          unfold rfar
          rw [mx_join hp rowT_self]
          refine mx_congr (fun m => ?_) e
          rw [rowT_s]
          constructor
          · rintro (w | ⟨q, w1, w2⟩)
            · exact .inl w
            · exact .inr (.inl ⟨q, w1, .inl ⟨by omega, w2⟩⟩)
          · rintro (w | ⟨q, w1, w2⟩ | ⟨w, _⟩)
            · exact .inl w
            · rcases w2 with w2 | w2
              · exact .inr ⟨q, w1, w2.2⟩
              · exact absurd w2.1 d
            · exact absurd w d
        · intro i; rw [a2, Run_s]
          constructor
          · rintro ⟨q, w1, w2⟩; exact ⟨q, w1, .inl ⟨by omega, w2⟩⟩
          · rintro ⟨q, w1, w2 | w2⟩
            · exact ⟨q, w1, w2.2⟩
            · exact absurd w2.1 d
        · intro t; rw [a3, h3, rowS_s]
          constructor
          · rintro (w | ⟨w1, w2⟩)
            · exact .inl w
            · exact .inr ⟨e, w1, .inl ⟨by omega, rfl, w2⟩⟩
          · rintro (w | ⟨q, w1, w2 | w2⟩)
            · exact .inl w
            · obtain ⟨_, w3, w4⟩ := w2
              subst w3; exact .inr ⟨w1, w4⟩
            · exact absurd w2.1 d
        · refine sg_C_readRow_19_fff19 X (xa σ, s) _ _ _ row (8 * row + k) s' rfl hr c28 c (n8 row k) (by omega) (by rw [ek, tok_1 hy.1 hy.2 d]; decide) (by rw [ek]; exact t) ?_
          rw [n_s]; exact kk
  · intro s ⟨h0, h1, h2, h3, h4⟩
    have hg' : GC g (xa σ, s) := hg.fr h4 (by decide)
    exact ⟨s, ⟨h0, h1, h2, h3, h4⟩, fun q X kk => sg_C_readRow_19_tr X (xa σ, s) _ _ _ row rfl hr (by rw [hg'.2.2.1 row hr, n_le (by omega) (by omega)]; omega) kk⟩
  · show nI p = _
    congr 1
    exact (mx_eq hp rowT_self (fun m _ w => by have := rowT_0.mp w; omega)).symm
  · intro i
    show tb (shlL 1 (nI p)) i = true ↔ _
    rw [tb_shlL (by omega), decide_eq_true_eq]; exact Iff.rfl
  · intro t
    show tb 0 t = true ↔ _
    rw [tb_0]; exact ⟨fun w => (by cases w), fun w => absurd w rowS_0⟩
  · refine ⟨s, h1, ?_⟩
    refine Ct.of (by decide +kernel) (Nat.le_of_ble_eq_true rfl) (fun K X => ?_)
    exact sg_C_readRow_0_19 X σ _ _ (k1 (K, _, _) X ⟨rfl, rfl⟩)
theorem k_fillRule (G : GG) {g : Gr} {T : Nat → Int} {e : Nat} {σ : St} (hw : WF g) (hg : GC g σ) (he : e ≤ 60) (hP : inP T e σ) {x p : Nat} (hx : x < gR g) (hp : p ≤ e)
    (hok : ∀ a, a < gA g x → ∀ k, k < gL g (8 * x + a) → ∀ m, Run g T e (8 * x + a) k p m → gY g (8 * x + a) k < 0 → rl (gY g (8 * x + a) k) < gR g ∧ okT g T e σ (rl (gY g (8 * x + a) k)) m) (hE : xi σ 12 0 = nI e) :
    ∃ s : Sq, (xi (xa σ, s) 12 0 = nI e ∧ Fr (inR 12 18) σ (xa σ, s) ∧ xl (xa σ, s) 13 = xl σ 13 ∧ okT g T e (xa σ, s) x p ∧ (∀ a, a < gA g x → okR g T e (xa σ, s) (8 * x + a) p) ∧
      (∀ j, j ≠ 61 * x + p → xl (xa σ, s) 16 j = xl σ 16 j ∧ xi (xa σ, s) 17 j = xi σ 17 j ∧ xl (xa σ, s) 18 j = xl σ 18 j) ∧
      (∀ j, (∀ a, a < gA g x → j ≠ 61 * (8 * x + a) + p) → xl (xa σ, s) 14 j = xl σ 14 j ∧ xi (xa σ, s) 15 j = xi σ 15 j)) ∧ Ct y_C_fillRule c_C_fillRule 10 none rm_C_fillRule G [.ref (xa σ 12), .int (nI x), .int (nI p)] (WC G σ) (eqp none (WC G (xa σ, s))) := by
  have h16 := hw.r
  have h8 := hw.a x
  obtain ⟨⟨s, w, v, u⟩, ⟨h0, h1, h2, h3, h4, h5, h6, h7, h9⟩, k1⟩ := iterL (α := Sq × Int64 × Int32 × Int64) (C := fun q : KP => Bd q.1 G q.2.1 "FirstTrees$Chart" c_C_fillRule 10 none rm_C_fillRule) (gA g x)
    (fun a b => xi (xa σ, b.1) 12 0 = nI e ∧ Fr (inR 12 15) σ (xa σ, b.1) ∧ xl (xa σ, b.1) 13 = xl σ 13 ∧ (∀ c, c < a → okR g T e (xa σ, b.1) (8 * x + c) p) ∧
      (∀ j, (∀ c, c < a → j ≠ 61 * (8 * x + c) + p) → xl (xa σ, b.1) 14 j = xl σ 14 j ∧ xi (xa σ, b.1) 15 j = xi σ 15 j) ∧
      (∀ i, tb b.2.1 i = true ↔ ∃ c, c < a ∧ Run g T e (8 * x + c) (gL g (8 * x + c)) p i) ∧ b.2.2.1 = nI (mx (fun m => m = p ∨ ∃ c, c < a ∧ rowT g T e (8 * x + c) (gL g (8 * x + c)) p m) e) ∧
      (∀ t, tb b.2.2.2 t = true ↔ ∃ c, c < a ∧ rowS g T e (8 * x + c) (gL g (8 * x + c)) p t) ∧ True)
    (fun q a b => Lb q.1 G q.2.1 (Qe q.1 G q.2.1 q.2.2 rm_C_fillRule) 10 11 [(0, .ref (xa σ 12)), (1, .int (nI x)), (2, .int (nI p)), (3, .long b.2.1), (5, .int b.2.2.1), (6, .long b.2.2.2), (8, .int (nI a))] [] (WC G (xa σ, b.1)) 0 0) (by
    intro a ⟨s, w, v, u⟩ ha ⟨h0, h1, h2, h3, h4, h5, h6, h7, _⟩
    have h0 : xi (xa σ, s) 12 0 = nI e := h0
    have h1 : Fr (inR 12 15) σ (xa σ, s) := h1
    have h2 : xl (xa σ, s) 13 = xl σ 13 := h2
    have h3 : ∀ c, c < a → okR g T e (xa σ, s) (8 * x + c) p := h3
    have h4 : ∀ j, (∀ c, c < a → j ≠ 61 * (8 * x + c) + p) → xl (xa σ, s) 14 j = xl σ 14 j ∧ xi (xa σ, s) 15 j = xi σ 15 j := h4
    have h5 : ∀ i, tb w i = true ↔ ∃ c, c < a ∧ Run g T e (8 * x + c) (gL g (8 * x + c)) p i := h5
    have h6 : v = nI (mx (fun m => m = p ∨ ∃ c, c < a ∧ rowT g T e (8 * x + c) (gL g (8 * x + c)) p m) e) := h6
    have h7 : ∀ t, tb u t = true ↔ ∃ c, c < a ∧ rowS g T e (8 * x + c) (gL g (8 * x + c)) p t := h7
    have hg' : GC g (xa σ, s) := hg.fr h1 (by decide)
    have hP' : inP T e (xa σ, s) := by unfold inP; rw [h2]; exact hP
    obtain ⟨s', ⟨a0, a1, a2, a3, a4⟩, t⟩ := k_readRow G (σ := (xa σ, s)) hw hg' he hP' (row := 8 * x + a) (p := p) (by omega) hp (fun k hk m hr hs => ⟨(hok a ha k hk m hr hs).1, (hok a ha k hk m hr hs).2.fr h1 (by decide)⟩) h0
    have e14 : xl (xa σ, s') 14 = xl (xa σ, s) 14 := a4.el 14 (by decide)
    have e15 : xi (xa σ, s') 15 = xi (xa σ, s) 15 := a4.ei 15 (by decide)
    have cs : ∀ (P : Nat → Prop), (∃ c, c < a + 1 ∧ P c) ↔ ((∃ c, c < a ∧ P c) ∨ P a) := by
      intro P
      constructor
      · rintro ⟨c, q1, q2⟩
        by_cases ec : c = a
        · subst ec; exact .inr q2
        · exact .inl ⟨c, by omega, q2⟩
      · rintro (⟨c, q1, q2⟩ | q)
        · exact ⟨c, by omega, q2⟩
        · exact ⟨a, by omega, q⟩
    refine ⟨((wi (wl (xa σ, s') 14 (61 * (8 * x + a) + p) (xl (xa σ, s') 12 0)) 15 (61 * (8 * x + a) + p) (xi (xa σ, s') 12 1)).2, w ||| xl (xa σ, s') 12 0, imax v (xi (xa σ, s') 12 1), u ||| xl (xa σ, s') 12 1), ⟨a0, ?_, ?_, ?_, ?_, ?_, ?_, ?_, trivial⟩, fun q X kk => ?_⟩
    · exact ((h1.trans (a4.mono (fun k hk => ⟨hk.1, by have := hk.2; omega⟩))).l (by decide) _ _).i (by decide) _ _
    · show xl (xa σ, s') 13 = _
      rw [a4.el 13 (by decide)]; exact h2
    · intro c hc
      unfold okR
      show (∀ i, tb (vp_updL (xl (xa σ, s') 14) (61 * (8 * x + a) + p) (xl (xa σ, s') 12 0) (61 * (8 * x + c) + p)) i = true ↔ _) ∧ upd (xi (xa σ, s') 15) (61 * (8 * x + a) + p) (xi (xa σ, s') 12 1) (61 * (8 * x + c) + p) = _
      by_cases ec : c = a
      · subst ec; rw [updL_at, upd_at]; exact ⟨a2, a1⟩
      · rw [updL_ne _ _ (by omega), upd_ne _ _ (by omega), e14, e15]; exact h3 c (by omega)
    · intro j hj
      show vp_updL (xl (xa σ, s') 14) (61 * (8 * x + a) + p) (xl (xa σ, s') 12 0) j = _ ∧ upd (xi (xa σ, s') 15) (61 * (8 * x + a) + p) (xi (xa σ, s') 12 1) j = _
      rw [updL_ne _ _ (hj a (by omega)), upd_ne _ _ (hj a (by omega)), e14, e15]
      exact h4 j (fun c hc => hj c (by omega))
    · intro i
      show tb (w ||| xl (xa σ, s') 12 0) i = true ↔ _
      rw [tb_or, Bool.or_eq_true, h5, a2, cs (fun c => Run g T e (8 * x + c) (gL g (8 * x + c)) p i)]
    · show imax v (xi (xa σ, s') 12 1) = _
      have b1 := mx_le (fun m => m = p ∨ ∃ c, c < a ∧ rowT g T e (8 * x + c) (gL g (8 * x + c)) p m) e
      have b2 : rfar g T e (8 * x + a) (gL g (8 * x + a)) p ≤ e := mx_le _ _
      rw [h6, a1, imax_n (by omega) (by omega)]
      unfold rfar
      rw [← mx_or hp (.inl rfl) hp rowT_self]
      congr 1
      refine mx_congr (fun m => ?_) e
      rw [cs (fun c => rowT g T e (8 * x + c) (gL g (8 * x + c)) p m), or_assoc]
    · intro t
      show tb (u ||| xl (xa σ, s') 12 1) t = true ↔ _
      rw [tb_or, Bool.or_eq_true, h7, a3, cs (fun c => rowS g T e (8 * x + c) (gL g (8 * x + c)) p t)]
    · refine sg_C_fillRule_11_f11 X (xa σ, s) _ _ _ _ _ _ x s' (61 * (8 * x + a) + p) rfl (by omega) ?_ (by rw [n8]; exact t) (by rw [n8, m61]) (by omega) ?_
      · rw [altC_eq hw hg' hx, n_le (by omega) (by omega)]; omega
      · rw [n_s]; exact kk) 0 (σ.2, 0, nI p, 0) (Nat.zero_le _) ⟨hE, Fr.refl _ _, rfl, fun c hc => absurd hc (Nat.not_lt_zero _), fun j _ => ⟨rfl, rfl⟩, fun i => by
      show tb 0 i = true ↔ _
      rw [tb_0]; exact ⟨fun w => (by cases w), fun ⟨c, hc, _⟩ => absurd hc (Nat.not_lt_zero _)⟩, by
      show nI p = _
      congr 1
      exact (mx_eq hp (.inl rfl) (fun m _ w => w.elim (fun w => Nat.le_of_eq w) (fun ⟨c, hc, _⟩ => absurd hc (Nat.not_lt_zero _)))).symm, fun t => by
      show tb 0 t = true ↔ _
      rw [tb_0]; exact ⟨fun w => (by cases w), fun ⟨c, hc, _⟩ => absurd hc (Nat.not_lt_zero _)⟩, trivial⟩
  have h0 : xi (xa σ, s) 12 0 = nI e := h0
  have h1 : Fr (inR 12 15) σ (xa σ, s) := h1
  have h2 : xl (xa σ, s) 13 = xl σ 13 := h2
  have h5 : ∀ i, tb w i = true ↔ ∃ c, c < gA g x ∧ Run g T e (8 * x + c) (gL g (8 * x + c)) p i := h5
  have h6 : v = nI (mx (fun m => m = p ∨ ∃ c, c < gA g x ∧ rowT g T e (8 * x + c) (gL g (8 * x + c)) p m) e) := h6
  have h7 : ∀ t, tb u t = true ↔ ∃ c, c < gA g x ∧ rowS g T e (8 * x + c) (gL g (8 * x + c)) p t := h7
  have hg' : GC g (xa σ, s) := hg.fr h1 (by decide)
  refine ⟨(wl (wi (wl (xa σ, s) 16 (61 * x + p) w) 17 (61 * x + p) v) 18 (61 * x + p) u).2, ⟨h0, ?_, h2, ?_, h3, ?_, h4⟩, ?_⟩
  · exact (((h1.mono (fun k hk => ⟨hk.1, by have := hk.2; omega⟩)).l (by decide) _ _).i (by decide) _ _).l (by decide) _ _
  · unfold okT
    show (∀ i, tb (vp_updL (xl (xa σ, s) 16) (61 * x + p) w (61 * x + p)) i = true ↔ _) ∧ upd (xi (xa σ, s) 17) (61 * x + p) v (61 * x + p) = _ ∧ ∀ t, tb (vp_updL (xl (xa σ, s) 18) (61 * x + p) u (61 * x + p)) t = true ↔ _
    rw [updL_at, upd_at, updL_at]
    refine ⟨fun i => by rw [h5, En_iff hx hp], ?_, fun t => by rw [h7, Sn_iff hx hp]⟩
    rw [h6]; congr 1
    exact mx_congr (fun m => by rw [Tc_iff hx hp]) e
  · intro j hj
    show vp_updL (xl (xa σ, s) 16) (61 * x + p) w j = _ ∧ upd (xi (xa σ, s) 17) (61 * x + p) v j = _ ∧ vp_updL (xl (xa σ, s) 18) (61 * x + p) u j = _
    rw [updL_ne _ _ hj, upd_ne _ _ hj, updL_ne _ _ hj, h1.el 16 (by decide), h1.ei 17 (by decide), h1.el 18 (by decide)]
    exact ⟨rfl, rfl, rfl⟩
  · refine Ct.of (by decide +kernel) (Nat.le_of_ble_eq_true rfl) (fun K X => ?_)
    refine sg_C_fillRule_0_11 X σ _ _ (k1 (K, _, _) X ?_)
    refine sg_C_fillRule_11_tr X (xa σ, s) _ _ _ _ _ _ x (61 * x + p) rfl (by omega) ?_ (m61 x p) (by omega) ⟨rfl, rfl⟩
    rw [altC_eq hw hg' hx, n_le (by omega) (by omega)]; omega
theorem k_findPlaces (G : GG) {T : Nat → Int} {n e : Nat} {σ : St} (hT : WT T n) (he : e ≤ 60) (hI : ∀ i, i < 60 → xi σ 11 i = sI (T i)) (hE : xi σ 12 0 = nI e) :
    ∃ s : Sq, (inP T e (xa σ, s) ∧ Fr (inR 13 13) σ (xa σ, s)) ∧ Ct y_C_findPlaces c_C_findPlaces 2 none rm_C_findPlaces G [.ref (xa σ 12)] (WC G σ) (eqp none (WC G (xa σ, s))) := by
  obtain ⟨s, ⟨h1, h2⟩, k1⟩ := iterL (α := Sq) (C := fun q : KP => Bd q.1 G q.2.1 "FirstTrees$Chart" c_C_findPlaces 2 none rm_C_findPlaces) 32 (fun t s => (∀ u, u < t → xl (xa σ, s) 13 u = 0) ∧ Fr (inR 13 13) σ (xa σ, s))
    (fun q t s => Lb q.1 G q.2.1 (Qe q.1 G q.2.1 q.2.2 rm_C_findPlaces) 2 2 [(0, .ref (xa σ 12)), (1, .int (nI t))] [] (WC G (xa σ, s)) 0 0) (by
    intro t s ht ⟨h1, h2⟩
    refine ⟨(wl (xa σ, s) 13 t 0).2, ⟨fun u hu => ?_, h2.l (by decide) _ _⟩, fun q X kk => ?_⟩
    · show vp_updL (xl (xa σ, s) 13) t 0 u = 0
      by_cases eu : u = t
      · rw [eu, updL_at]
      · rw [updL_ne _ _ eu]; exact h1 u (by omega)
    · refine sg_C_findPlaces_2_f2 X (xa σ, s) _ t (by rw [show (32 : Int32) = nI 32 from rfl, n_le (by omega) (by omega)]; omega) rfl ht ?_
      rw [n_s]; exact kk) 0 σ.2 (Nat.zero_le _) ⟨fun u hu => absurd hu (Nat.not_lt_zero _), Fr.refl _ _⟩
  obtain ⟨s', ⟨h3, h4⟩, k2⟩ := iterL (α := Sq) (C := fun q : KP => Bd q.1 G q.2.1 "FirstTrees$Chart" c_C_findPlaces 2 none rm_C_findPlaces) e (fun p s => (∀ t : Nat, t < 32 → ∀ i, tb (xl (xa σ, s) 13 t) i = true ↔ (i < p ∧ T i = t)) ∧ Fr (inR 13 13) σ (xa σ, s))
    (fun q p s => Lb q.1 G q.2.1 (Qe q.1 G q.2.1 q.2.2 rm_C_findPlaces) 2 23 [(0, .ref (xa σ 12)), (1, .int (nI p))] [] (WC G (xa σ, s)) 0 0) (by
    intro p s hp ⟨h1, h2⟩
    have hb := hT.2 p
    refine ⟨(wl (xa σ, s) 13 (T p).toNat (xl (xa σ, s) 13 (T p).toNat ||| shlL 1 (nI p))).2, ⟨fun t ht i => ?_, h2.l (by decide) _ _⟩, fun q X kk => ?_⟩
    · show tb (vp_updL (xl (xa σ, s) 13) (T p).toNat (xl (xa σ, s) 13 (T p).toNat ||| shlL 1 (nI p)) t) i = true ↔ _
      by_cases et : t = (T p).toNat
      · subst et
        rw [updL_at, tb_or, Bool.or_eq_true, h1 _ ht, tb_shlL (by omega), decide_eq_true_eq]
        constructor
        · rintro (w | w)
          · exact ⟨by omega, w.2⟩
          · subst w; exact ⟨by omega, by omega⟩
        · rintro ⟨w1, w2⟩
          by_cases ei : i = p
          · exact .inr ei
          · exact .inl ⟨by omega, w2⟩
      · rw [updL_ne _ _ et, h1 t ht]
        constructor
        · rintro ⟨w1, w2⟩; exact ⟨by omega, w2⟩
        · rintro ⟨w1, w2⟩
          refine ⟨?_, w2⟩
          by_cases ei : i = p
          · subst ei; exact absurd (by omega) et
          · omega
    · refine sg_C_findPlaces_23_f23 X (xa σ, s) _ p (T p).toNat ?_ rfl (by omega) ?_ (by omega) ?_
      · rw [h2.ei 12 (by decide), hE, n_le (by omega) (by omega)]; omega
      · rw [h2.ei 11 (by decide), hI p (by omega), nN hb.1]
      · rw [n_s]; exact kk) 0 s (Nat.zero_le _) ⟨fun t ht i => by
      rw [h1 t ht, tb_0]; exact ⟨fun w => (by cases w), fun w => absurd w.1 (Nat.not_lt_zero _)⟩, h2⟩
  refine ⟨s', ⟨h3, h4⟩, ?_⟩
  refine Ct.of (by decide +kernel) (Nat.le_of_ble_eq_true rfl) (fun K X => ?_)
  refine sg_C_findPlaces_0_2 X σ (k1 (K, _, _) X ?_)
  refine sg_C_findPlaces_2_t23 X (xa σ, s) _ (by decide) (k2 (K, _, _) X ?_)
  refine sg_C_findPlaces_23_tr X (xa σ, s') _ ?_ ⟨rfl, rfl⟩
  rw [h4.ei 12 (by decide), hE, n_le (by omega) (by omega)]; omega
/-- the chart is right for the end e -/
def okC (g : Gr) (T : Nat → Int) (e : Nat) (σ : St) : Prop := xi σ 12 0 = nI e ∧ ∀ y, y < gR g → ∀ q, q ≤ e → okT g T e σ y q ∧ ∀ b, b < gA g y → okR g T e σ (8 * y + b) q
theorem k_fill (G : GG) {g : Gr} {T : Nat → Int} {n e : Nat} {σ : St} (hw : WF g) (hg : GC g σ) (hn : NoF (F2 g) (gR g)) (hT : WT T n) (he : e ≤ 60) (hI : ∀ i, i < 60 → xi σ 11 i = sI (T i)) {o : Nat → Nat} (ho : Topo g o) (hO : ∀ k, k < gR g → xi σ 7 k = nI (o k)) :
    ∃ s : Sq, (okC g T e (xa σ, s) ∧ Fr (inR 12 18) σ (xa σ, s)) ∧ Ct y_C_fill c_C_fill 4 none rm_C_fill G [.ref (xa σ 12), .int (nI e)] (WC G σ) (eqp none (WC G (xa σ, s))) := by
  have h16 := hw.r
  obtain ⟨s0, ⟨p1, p2⟩, t0⟩ := k_findPlaces G (σ := wi σ 12 0 (nI e)) (e := e) hT he hI rfl
  obtain ⟨s, ⟨h0, h1, h2, h3⟩, k1⟩ := iterD (α := Sq) (C := fun q : KP => Bd q.1 G q.2.1 "FirstTrees$Chart" c_C_fill 4 none rm_C_fill) (fun i s => xi (xa σ, s) 12 0 = nI e ∧ Fr (inR 12 18) σ (xa σ, s) ∧ inP T e (xa σ, s) ∧
      ∀ y, y < gR g → ∀ q, i ≤ q → q ≤ e → okT g T e (xa σ, s) y q ∧ ∀ b, b < gA g y → okR g T e (xa σ, s) (8 * y + b) q)
    (fun q i s => Lb q.1 G q.2.1 (Qe q.1 G q.2.1 q.2.2 rm_C_fill) 4 11 [(0, .ref (xa σ 12)), (1, .int (nI e)), (2, .int (dI i))] [] (WC G (xa σ, s)) 0 0) (e + 1) (by
    intro p s hp ⟨h0, h1, h2, h3⟩
    obtain ⟨s', ⟨i0, i1, i2, i3⟩, k2⟩ := iterL (α := Sq) (C := fun q : KP => Bd q.1 G q.2.1 "FirstTrees$Chart" c_C_fill 4 none rm_C_fill) (gR g) (fun j s => xi (xa σ, s) 12 0 = nI e ∧ Fr (inR 12 18) σ (xa σ, s) ∧ inP T e (xa σ, s) ∧
        ∀ y q, Ok g e o p j y q → okT g T e (xa σ, s) y q ∧ ∀ b, b < gA g y → okR g T e (xa σ, s) (8 * y + b) q)
      (fun q j s => Lb q.1 G q.2.1 (Qe q.1 G q.2.1 q.2.2 rm_C_fill) 4 17 [(0, .ref (xa σ 12)), (1, .int (nI e)), (2, .int (nI p)), (3, .int (nI j))] [] (WC G (xa σ, s)) 0 0) (by
      intro j s hj ⟨i0, i1, i2, i3⟩
      have hg' : GC g (xa σ, s) := hg.fr i1 (by decide)
      have hx := ho.1 j hj
      obtain ⟨s', ⟨a0, a1, a2, a3, a4, a5, a6⟩, t⟩ := k_fillRule G (σ := (xa σ, s)) hw hg' he i2 (x := o j) (p := p) hx (by omega) (fun a ha k hk m hr hs => ⟨rl_lt hn hx ha hk hs, (i3 _ _ (need_ok hn ho hj rfl (by omega) ha hk hs hr)).1⟩) i0
      have a0 : xi (xa σ, s') 12 0 = nI e := a0
      have a1 : Fr (inR 12 18) (xa σ, s) (xa σ, s') := a1
      refine ⟨s', ⟨a0, i1.trans a1, ?_, ?_⟩, fun q X kk => ?_⟩
      · unfold inP
        have a2 : xl (xa σ, s') 13 = xl (xa σ, s) 13 := a2
        rw [a2]; exact i2
      · intro y q hq
        by_cases c : y = o j ∧ q = p
        · obtain ⟨rfl, rfl⟩ := c
          exact ⟨a3, a4⟩
        · have hq2 := hq.2.1
          have hq' : Ok g e o p j y q := by
            refine ⟨hq.1, hq.2.1, ?_⟩
            rcases hq.2.2 with w | ⟨w1, i, w2, w3⟩
            · exact .inl w
            · refine .inr ⟨w1, i, ?_, w3⟩
              by_cases ei : i = j
              · subst ei; exact absurd ⟨w3.symm, w1⟩ c
              · omega
          obtain ⟨b1, b2⟩ := i3 y q hq'
          have ne1 : 61 * y + q ≠ 61 * o j + p := fun w => c ⟨by omega, by omega⟩
          obtain ⟨c1, c2, c3⟩ := a5 _ ne1
          refine ⟨?_, fun b hb => ?_⟩
          · unfold okT
            have c1 : xl (xa σ, s') 16 (61 * y + q) = xl (xa σ, s) 16 (61 * y + q) := c1
            have c2 : xi (xa σ, s') 17 (61 * y + q) = xi (xa σ, s) 17 (61 * y + q) := c2
            have c3 : xl (xa σ, s') 18 (61 * y + q) = xl (xa σ, s) 18 (61 * y + q) := c3
            rw [c1, c2, c3]; exact b1
          · have hb8 := hw.a y
            have ho8 := hw.a (o j)
            have ne2 : ∀ a, a < gA g (o j) → 61 * (8 * y + b) + q ≠ 61 * (8 * o j + a) + p := fun a ha w => c ⟨by omega, by omega⟩
            obtain ⟨d1, d2⟩ := a6 _ ne2
            unfold okR
            have d1 : xl (xa σ, s') 14 (61 * (8 * y + b) + q) = xl (xa σ, s) 14 (61 * (8 * y + b) + q) := d1
            have d2 : xi (xa σ, s') 15 (61 * (8 * y + b) + q) = xi (xa σ, s) 15 (61 * (8 * y + b) + q) := d2
            rw [d1, d2]; exact b2 b hb
      · refine sg_C_fill_17_f17 X (xa σ, s) _ _ _ j s' (by rw [hg'.1, n_le (by omega) (by omega)]; omega) rfl (by omega) (by rw [i1.ei 7 (by decide), hO j hj]; exact t) ?_
        rw [n_s]; exact kk) 0 s (Nat.zero_le _) ⟨h0, h1, h2, fun y q hq => h3 y hq.1 q (by
          rcases hq.2.2 with w | ⟨_, i, w, _⟩
          · exact w
          · exact absurd w (Nat.not_lt_zero _)) hq.2.1⟩
    have hg' : GC g (xa σ, s') := hg.fr i1 (by decide)
    refine ⟨s', ⟨i0, i1, i2, fun y hy q hq1 hq2 => i3 y q ⟨hy, hq2, ?_⟩⟩, fun q X kk => ?_⟩
    · by_cases c : q = p
      · obtain ⟨k, hk, e1⟩ := ho.2.1 y hy
        exact .inr ⟨c, k, hk, e1⟩
      · exact .inl (by omega)
    · show Lb _ _ _ _ _ _ [(0, .ref (xa σ 12)), (1, .int (nI e)), (2, .int (dI (p + 1)))] _ _ _ _
      rw [dI_s]
      refine sg_C_fill_11_f17 X (xa σ, s) _ _ (dI_nn (by omega)) (k2 q X ?_)
      refine sg_C_fill_17_t11 X (xa σ, s') _ _ _ (by rw [hg'.1, n_le (by omega) (by omega)]; omega) ?_
      rw [dI_m]; exact kk) (e + 1) s0 (Nat.le_refl _) ⟨by
      have : xi (xa σ, s0) 12 = xi (wi σ 12 0 (nI e)) 12 := p2.ei 12 (by decide)
      rw [this]; rfl, ((Fr.refl _ σ).i (by decide) _ _).trans (p2.mono (fun k hk => ⟨by have := hk.1; omega, by have := hk.2; omega⟩)), p1, fun y hy q h1 h2 => by omega⟩
  refine ⟨s, ⟨⟨h0, fun y hy q hq => h3 y hy q (Nat.zero_le _) hq⟩, h1⟩, ?_⟩
  refine Ct.of (by decide +kernel) (Nat.le_of_ble_eq_true rfl) (fun K X => ?_)
  refine sg_C_fill_0_11 X σ _ s0 t0 ?_
  have := k1 (K, _, eqp none (WC G (xa σ, s))) X (sg_C_fill_11_tr X (xa σ, s) _ _ dI_0 ⟨rfl, rfl⟩)
  simp only [dI_s] at this
  exact this
