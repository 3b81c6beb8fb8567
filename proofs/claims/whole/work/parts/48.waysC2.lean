theorem k_addRow (G : GG) {e : Nat} {σ : St} (he : e ≤ 60) (hE : xi σ 12 0 = nI e) {x p : Nat} (hx : x < 16) (hp : p ≤ e) (f h : Nat → Nat) (hf : ∀ q, p ≤ q → q ≤ e → xi σ 20 (61 * (61 * x + p) + q) = nI (cp (f q))) (hh : ∀ q, p ≤ q → q ≤ e → xl σ 21 q = nL (cp (h q))) :
    ∃ s : Sq, ((∀ q, p ≤ q → q ≤ e → xi (xa σ, s) 20 (61 * (61 * x + p) + q) = nI (cp (f q + h q))) ∧ (∀ j, (∀ q, p ≤ q → q ≤ e → j ≠ 61 * (61 * x + p) + q) → xi (xa σ, s) 20 j = xi σ 20 j) ∧ Fr (inR 20 20) σ (xa σ, s)) ∧
      Ct y_Y_addRow c_Y_addRow 5 none rm_Y_addRow G [.ref (xa σ 19), .int (nI x), .int (nI p)] (WC G σ) (eqp none (WC G (xa σ, s))) := by
  obtain ⟨s, ⟨_, a1, a2, a3⟩, k1⟩ := iterL (α := Sq) (C := fun q : KP => Bd q.1 G q.2.1 "FirstTrees$Ways" c_Y_addRow 5 none rm_Y_addRow) (e + 1) (fun i s => p ≤ i ∧ (∀ q, p ≤ q → q ≤ e → xi (xa σ, s) 20 (61 * (61 * x + p) + q) = nI (cp (f q + if q < i then h q else 0))) ∧ (∀ j, (∀ q, p ≤ q → q ≤ e → j ≠ 61 * (61 * x + p) + q) → xi (xa σ, s) 20 j = xi σ 20 j) ∧ Fr (inR 20 20) σ (xa σ, s))
    (fun q i s => Lb q.1 G q.2.1 (Qe q.1 G q.2.1 q.2.2 rm_Y_addRow) 5 2 [(0, .ref (xa σ 19)), (1, .int (nI x)), (2, .int (nI p)), (3, .int (nI i))] [] (WC G (xa σ, s)) 0 0) (by
    intro i s hi ⟨a0, a1, a2, a3⟩
    have hv : Int64.toInt32 (lmin 1000000000 (Int32.toInt64 (xi (xa σ, s) 20 (61 * (61 * x + p) + i)) + xl (xa σ, s) 21 i)) = nI (cp (f i + h i)) := by
      have c1 := cp_le (f i)
      have c2 := cp_le (h i)
      have c3 := cp_le (f i + h i)
      rw [a1 i a0 (by omega), if_neg (by omega), Nat.add_zero, a3.el 21 (by decide), hh i a0 (by omega), nL_i (by omega), nL_add, lmin_cp (by omega), cp_add, cp_addr, nL_l (by omega)]
    refine ⟨(wi (xa σ, s) 20 (61 * (61 * x + p) + i) (Int64.toInt32 (lmin 1000000000 (Int32.toInt64 (xi (xa σ, s) 20 (61 * (61 * x + p) + i)) + xl (xa σ, s) 21 i)))).2, ⟨by omega, fun q h1 h2 => ?_, fun j hj => ?_, a3.i (by decide) _ _⟩, fun q X kk => ?_⟩
    · show upd (xi (xa σ, s) 20) (61 * (61 * x + p) + i) _ _ = _
      by_cases eq : q = i
      · subst eq; rw [upd_at, hv, if_pos (by omega)]
      · rw [upd_ne _ _ (by omega), a1 q h1 h2]
        by_cases c : q < i
        · rw [if_pos c, if_pos (by omega)]
        · rw [if_neg c, if_neg (by omega)]
    · show upd (xi (xa σ, s) 20) (61 * (61 * x + p) + i) _ j = _
      rw [upd_ne _ _ (hj i a0 (by omega))]; exact a2 j hj
    · refine sg_Y_addRow_2_f2 X (xa σ, s) _ _ _ (61 * (61 * x + p) + i) i (by rw [a3.ei 12 (by decide), hE, n_lt (by omega) (by omega)]; omega) (m61q x p i) (by omega) rfl (by omega) ?_
      rw [n_s]; exact kk) p σ.2 (by omega) ⟨Nat.le_refl _, fun q h1 h2 => by rw [if_neg (by omega), Nat.add_zero]; exact hf q h1 h2, fun j _ => rfl, Fr.refl _ _⟩
  refine ⟨s, ⟨fun q h1 h2 => by rw [a1 q h1 h2, if_pos (by omega)], a2, a3⟩, ?_⟩
  refine Ct.of (by decide +kernel) (Nat.le_of_ble_eq_true rfl) (fun K X => ?_)
  refine sg_Y_addRow_0_2 X σ _ _ (k1 (K, _, _) X ?_)
  exact sg_Y_addRow_2_tr X (xa σ, s) _ _ _ (by rw [a3.ei 12 (by decide), hE, n_lt (by omega) (by omega)]; omega) ⟨rfl, rfl⟩
theorem k_YfillRule (G : GG) {g : Gr} {T : Nat → Int} {n e : Nat} {σ : St} (hw : WF g) (hg : GC g σ) (h2 : NoF (F2 g) (gR g)) (h4 : NoF (F4 g) (gR g)) (hT : WT T n) (he : e ≤ 60) (hC : okC g T e σ) (hI : ∀ i, i < 60 → xi σ 11 i = sI (T i)) {x p : Nat} (hx : x < gR g) (hp : p ≤ e)
    (hok : ∀ a, a < gA g x → ∀ k, k < gL g (8 * x + a) → ∀ m, Run g T e (8 * x + a) k p m → gY g (8 * x + a) k < 0 → okW g T e σ (rl (gY g (8 * x + a) k)) m ∧ (rl (gY g (8 * x + a) k) ≠ x ∨ m ≠ p)) :
    ∃ s : Sq, (okW g T e (xa σ, s) x p ∧ (∀ j, (∀ q, p ≤ q → q ≤ e → j ≠ 61 * (61 * x + p) + q) → xi (xa σ, s) 20 j = xi σ 20 j) ∧ Fr (inR 20 21) σ (xa σ, s)) ∧
      Ct y_Y_fillRule c_Y_fillRule 5 none rm_Y_fillRule G [.ref (xa σ 19), .int (nI x), .int (nI p)] (WC G σ) (eqp none (WC G (xa σ, s))) := by
  have h16 := hw.r
  have h8 := hw.a x
  have hE := hC.1
  obtain ⟨s0, ⟨_, a1, a2, a3⟩, k1⟩ := iterL (α := Sq) (C := fun q : KP => Bd q.1 G q.2.1 "FirstTrees$Ways" c_Y_fillRule 5 none rm_Y_fillRule) (e + 1) (fun i s => p ≤ i ∧ (∀ q, p ≤ q → q < i → xi (xa σ, s) 20 (61 * (61 * x + p) + q) = 0) ∧ (∀ j, (∀ q, p ≤ q → q ≤ e → j ≠ 61 * (61 * x + p) + q) → xi (xa σ, s) 20 j = xi σ 20 j) ∧ Fr (inR 20 21) σ (xa σ, s))
    (fun q i s => Lb q.1 G q.2.1 (Qe q.1 G q.2.1 q.2.2 rm_Y_fillRule) 5 2 [(0, .ref (xa σ 19)), (1, .int (nI x)), (2, .int (nI p)), (3, .int (nI i))] [] (WC G (xa σ, s)) 0 0) (by
    intro i s hi ⟨a0, a1, a2, a3⟩
    refine ⟨(wi (xa σ, s) 20 (61 * (61 * x + p) + i) 0).2, ⟨by omega, fun q h1 h2 => ?_, fun j hj => ?_, a3.i (by decide) _ _⟩, fun q X kk => ?_⟩
    · show upd (xi (xa σ, s) 20) (61 * (61 * x + p) + i) 0 _ = 0
      by_cases eq : q = i
      · rw [eq, upd_at]
      · rw [upd_ne _ _ (by omega)]; exact a1 q h1 (by omega)
    · show upd (xi (xa σ, s) 20) (61 * (61 * x + p) + i) 0 j = _
      rw [upd_ne _ _ (hj i a0 (by omega))]; exact a2 j hj
    · refine sg_Y_fillRule_2_f2 X (xa σ, s) _ _ _ (61 * (61 * x + p) + i) (by rw [a3.ei 12 (by decide), hE, n_lt (by omega) (by omega)]; omega) (m61q x p i) (by omega) ?_
      rw [n_s]; exact kk) p σ.2 (by omega) ⟨Nat.le_refl _, fun q h1 h2 => by omega, fun j _ => rfl, Fr.refl _ _⟩
  obtain ⟨s, ⟨b1, b2, b3⟩, k2⟩ := iterL (α := Sq) (C := fun q : KP => Bd q.1 G q.2.1 "FirstTrees$Ways" c_Y_fillRule 5 none rm_Y_fillRule) (gA g x) (fun a s => (∀ q, p ≤ q → q ≤ e → xi (xa σ, s) 20 (61 * (61 * x + p) + q) = nI (cp (sumN (fun c => rN g (Nw g T e) T e (8 * x + c) (gL g (8 * x + c)) p q) a))) ∧ (∀ j, (∀ q, p ≤ q → q ≤ e → j ≠ 61 * (61 * x + p) + q) → xi (xa σ, s) 20 j = xi σ 20 j) ∧ Fr (inR 20 21) σ (xa σ, s))
    (fun q a s => Lb q.1 G q.2.1 (Qe q.1 G q.2.1 q.2.2 rm_Y_fillRule) 5 33 [(0, .ref (xa σ 19)), (1, .int (nI x)), (2, .int (nI p)), (3, .int (nI a))] [] (WC G (xa σ, s)) 0 0) (by
    intro a s ha ⟨b1, b2, b3⟩
    have hg' : GC g (xa σ, s) := hg.fr b3 (by decide)
    have hE' : xi (xa σ, s) 12 0 = nI e := by rw [b3.ei 12 (by decide)]; exact hE
    have hI' : ∀ i, i < 60 → xi (xa σ, s) 11 i = sI (T i) := by rw [b3.ei 11 (by decide)]; exact hI
    have hrow := ((hC.2 x hx p hp).2 a ha).1
    have e14 : xl (xa σ, s) 14 = xl σ 14 := b3.el 14 (by decide)
    have c42 : ¬ altC (xa σ, s) x ≤ nI a := by rw [altC_eq hw hg' hx, n_le (by omega) (by omega)]; omega
    have e62 : (nI x * 8 + nI a) * 61 + nI p = nI (61 * (8 * x + a) + p) := by rw [n8, m61]
    by_cases c : xl (xa σ, s) 14 (61 * (8 * x + a) + p) = 0
    · have hz : ∀ q, rN g (Nw g T e) T e (8 * x + a) (gL g (8 * x + a)) p q = 0 := fun q => Classical.byContradiction (fun w => by
        have h1 := (hrow q).mpr (rN_Run w)
        rw [← e14] at h1
        rw [c, tb_0] at h1; cases h1)
      refine ⟨s, ⟨fun q h1 h2 => ?_, b2, b3⟩, fun q X kk => ?_⟩
      · rw [b1 q h1 h2]
        show _ = nI (cp (sumN _ a + rN g (Nw g T e) T e (8 * x + a) (gL g (8 * x + a)) p q))
        rw [hz, Nat.add_zero]
      · refine sg_Y_fillRule_33_ft33 X (xa σ, s) _ _ _ x (61 * (8 * x + a) + p) rfl (by omega) c42 e62 (by omega) c ?_
        rw [n_s]; exact kk
    · obtain ⟨s1, ⟨c1, c2⟩, t1⟩ := k_YreadRow G (g := g) (T := T) (σ := (xa σ, s)) hw hg' hT he hE' hI' (row := 8 * x + a) (p := p) (by omega) hp (fun k hk m hr hs => by
        obtain ⟨o1, o2⟩ := hok a ha k hk m hr hs
        have hm := (Run_bd hp hr).2.1
        intro q h1 h2
        rw [b2 _ (fun q' h3 h4 w => by rcases o2 with o2 | o2 <;> omega)]
        exact o1 q h1 h2)
      have hE1 : xi (xa σ, s1) 12 0 = nI e := by
        have : xi (xa σ, s1) 12 = xi (xa σ, s) 12 := c2.ei 12 (by decide)
        rw [this]; exact hE'
      have e20 : xi (xa σ, s1) 20 = xi (xa σ, s) 20 := c2.ei 20 (by decide)
      obtain ⟨s2, ⟨d1, d2, d3⟩, t2⟩ := k_addRow G (σ := (xa σ, s1)) he hE1 (x := x) (p := p) (by omega) hp _ _ (by rw [e20]; exact b1) c1
      refine ⟨s2, ⟨d1, fun j hj => ?_, (b3.trans (c2.mono (fun k hk => ⟨by have := hk.1; omega, hk.2⟩))).trans (d3.mono (fun k hk => ⟨hk.1, by have := hk.2; omega⟩))⟩, fun q X kk => ?_⟩
      · have := d2 j hj
        rw [show xi (xa σ, s2) 20 j = xi (xa σ, s1) 20 j from this, e20]; exact b2 j hj
      · refine sg_Y_fillRule_33_ff33 X (xa σ, s) _ _ _ x (61 * (8 * x + a) + p) s1 s2 rfl (by omega) c42 e62 (by omega) c (by rw [n8]; exact t1) t2 ?_
        rw [n_s]; exact kk) 0 s0 (Nat.zero_le _) ⟨fun q h1 h2 => by rw [a1 q h1 (by omega)]; rfl, a2, a3⟩
  have hg' : GC g (xa σ, s) := hg.fr b3 (by decide)
  refine ⟨s, ⟨fun q h1 h2 => by rw [Nw_eq hw ‹_› h4 hx hp]; exact b1 q h1 h2, b2, b3⟩, ?_⟩
  refine Ct.of (by decide +kernel) (Nat.le_of_ble_eq_true rfl) (fun K X => ?_)
  refine sg_Y_fillRule_0_2 X σ _ _ (k1 (K, _, _) X ?_)
  refine sg_Y_fillRule_2_t33 X (xa σ, s0) _ _ _ (by rw [a3.ei 12 (by decide), hE, n_lt (by omega) (by omega)]; omega) (k2 (K, _, _) X ?_)
  exact sg_Y_fillRule_33_tr X (xa σ, s) _ _ _ x rfl (by omega) (by rw [altC_eq hw hg' hx, n_le (by omega) (by omega)]; omega) ⟨rfl, rfl⟩
theorem k_ofWholeInput (G : GG) {g : Gr} {T : Nat → Int} {n e : Nat} {σ : St} (hw : WF g) (hg : GC g σ) (h0 : gR g ≠ 0) (h2 : NoF (F2 g) (gR g)) (h4 : NoF (F4 g) (gR g)) (hT : WT T n) (he : e ≤ 60) (hC : okC g T e σ) (hI : ∀ i, i < 60 → xi σ 11 i = sI (T i)) {o : Nat → Nat} (ho : Topo g o) (hO : ∀ k, k < gR g → xi σ 7 k = nI (o k)) :
    ∃ s : Sq, Fr (inR 20 21) σ (xa σ, s) ∧ Ct y_Y_ofWholeInput c_Y_ofWholeInput 3 (some .int) rm_Y_ofWholeInput G [.ref (xa σ 19)] (WC G σ) (eqp (some (.int (nI (cp (Nw g T e 0 0 e))))) (WC G (xa σ, s))) := by
  have h16 := hw.r
  obtain ⟨s, ⟨h1, h3⟩, k1⟩ := iterD (α := Sq) (C := fun q : KP => Bd q.1 G q.2.1 "FirstTrees$Ways" c_Y_ofWholeInput 3 (some .int) rm_Y_ofWholeInput) (fun i s => Fr (inR 20 21) σ (xa σ, s) ∧ ∀ y, y < gR g → ∀ q, i ≤ q → q ≤ e → okW g T e (xa σ, s) y q)
    (fun q i s => Lb q.1 G q.2.1 (Qe q.1 G q.2.1 q.2.2 rm_Y_ofWholeInput) 3 8 [(0, .ref (xa σ 19)), (1, .int (dI i))] [] (WC G (xa σ, s)) 0 0) (e + 1) (by
    intro p s hp ⟨h1, h3⟩
    obtain ⟨s', ⟨i1, i3⟩, k2⟩ := iterL (α := Sq) (C := fun q : KP => Bd q.1 G q.2.1 "FirstTrees$Ways" c_Y_ofWholeInput 3 (some .int) rm_Y_ofWholeInput) (gR g) (fun j s => Fr (inR 20 21) σ (xa σ, s) ∧ ∀ y q, Ok g e o p j y q → okW g T e (xa σ, s) y q)
      (fun q j s => Lb q.1 G q.2.1 (Qe q.1 G q.2.1 q.2.2 rm_Y_ofWholeInput) 3 14 [(0, .ref (xa σ 19)), (1, .int (nI p)), (2, .int (nI j))] [] (WC G (xa σ, s)) 0 0) (by
      intro j s hj ⟨i1, i3⟩
      have hg' : GC g (xa σ, s) := hg.fr i1 (by decide)
      have hx := ho.1 j hj
      have hC' : okC g T e (xa σ, s) := by
        refine ⟨by rw [i1.ei 12 (by decide)]; exact hC.1, fun y hy q hq => ⟨(hC.2 y hy q hq).1.fr i1 (by decide), fun b hb => ?_⟩⟩
        have := (hC.2 y hy q hq).2 b hb
        unfold okR; rw [i1.el 14 (by decide), i1.ei 15 (by decide)]; exact this
      have hI' : ∀ i, i < 60 → xi (xa σ, s) 11 i = sI (T i) := by rw [i1.ei 11 (by decide)]; exact hI
      obtain ⟨s', ⟨a1, a2, a3⟩, t⟩ := k_YfillRule G (σ := (xa σ, s)) hw hg' h2 h4 hT he hC' hI' (x := o j) (p := p) hx (by omega) (fun a ha k hk m hr hs => by
        have hn := need_ok h2 ho hj rfl (by omega) ha hk hs hr
        refine ⟨i3 _ _ hn, ?_⟩
        by_cases c : m = p
        · refine .inl (fun w => ?_)
          subst c
          have hl := Lf_of (Run_left (by omega) ha hk hs hr)
          rw [w] at hl
          exact h4 _ hx hl
        · exact .inr c)
      refine ⟨s', ⟨i1.trans a3, fun y q hq => ?_⟩, fun q X kk => ?_⟩
      · by_cases c : y = o j ∧ q = p
        · obtain ⟨rfl, rfl⟩ := c
          exact a1
        · have hq2 := hq.2.1
          have hq' : Ok g e o p j y q := by
            refine ⟨hq.1, hq.2.1, ?_⟩
            rcases hq.2.2 with w | ⟨w1, i, w2, w3⟩
            · exact .inl w
            · refine .inr ⟨w1, i, ?_, w3⟩
              by_cases ei : i = j
              · subst ei; exact absurd ⟨w3.symm, w1⟩ c
              · omega
          intro r r1 r2
          have := a2 (61 * (61 * y + q) + r) (fun r' _ _ w => c ⟨by omega, by omega⟩)
          rw [show xi (xa σ, s') 20 (61 * (61 * y + q) + r) = xi (xa σ, s) 20 (61 * (61 * y + q) + r) from this]
          exact i3 y q hq' r r1 r2
      · refine sg_Y_ofWholeInput_14_f14 X (xa σ, s) _ _ j s' (by rw [hg'.1, n_le (by omega) (by omega)]; omega) rfl (by omega) (by rw [i1.ei 7 (by decide), hO j hj]; exact t) ?_
        rw [n_s]; exact kk) 0 s (Nat.zero_le _) ⟨h1, fun y q hq => h3 y hq.1 q (by
          rcases hq.2.2 with w | ⟨_, i, w, _⟩
          · exact w
          · exact absurd w (Nat.not_lt_zero _)) hq.2.1⟩
    have hg' : GC g (xa σ, s') := hg.fr i1 (by decide)
    refine ⟨s', ⟨i1, fun y hy q hq1 hq2 => i3 y q ⟨hy, hq2, ?_⟩⟩, fun q X kk => ?_⟩
    · by_cases c : q = p
      · obtain ⟨k, hk, e1⟩ := ho.2.1 y hy
        exact .inr ⟨c, k, hk, e1⟩
      · exact .inl (by omega)
    · show Lb _ _ _ _ _ _ [(0, .ref (xa σ 19)), (1, .int (dI (p + 1)))] _ _ _ _
      rw [dI_s]
      refine sg_Y_ofWholeInput_8_f14 X (xa σ, s) _ (dI_nn (by omega)) (k2 q X ?_)
      refine sg_Y_ofWholeInput_14_t8 X (xa σ, s') _ _ (by rw [hg'.1, n_le (by omega) (by omega)]; omega) ?_
      rw [dI_m]; exact kk) (e + 1) σ.2 (Nat.le_refl _) ⟨Fr.refl _ _, fun y hy q h1 h2 => by omega⟩
  refine ⟨s, h1, ?_⟩
  have hE : xi (xa σ, s) 12 0 = nI e := by rw [h1.ei 12 (by decide)]; exact hC.1
  have hv := h3 0 (by omega) 0 (Nat.zero_le _) (Nat.zero_le _) e (Nat.zero_le _) (Nat.le_refl _)
  refine Ct.of (by decide +kernel) (Nat.le_of_ble_eq_true rfl) (fun K X => ?_)
  refine sg_Y_ofWholeInput_0_8 X σ ?_
  rw [hC.1]
  have := k1 (K, _, eqp (some (.int (nI (cp (Nw g T e 0 0 e))))) (WC G (xa σ, s))) X (sg_Y_ofWholeInput_8_tr X (xa σ, s) _ e dI_0 (by rw [hE]; exact (m61q 0 0 e).trans (congrArg nI (by omega))) (by omega) (by
    refine ⟨?_, rfl⟩
    rw [show 61 * (61 * 0 + 0) + e = e from by omega] at hv
    rw [hv]))
  simp only [dI_s] at this
  exact this
