theorem Fr.si {P : Nat → Prop} {σ σ' : St} (h : Fr P σ σ') {k : Nat} (hk : P k) (f : Nat → Int32) : Fr P σ (si σ' k f) := by
  refine ⟨h.1, fun j hj => ?_, h.2.2.1, h.2.2.2⟩
  have e : ¬ j = k := fun q => hj (q ▸ hk)
  show (if j = k then f else xi σ' j) = _
  rw [if_neg e]; exact h.2.1 j hj
theorem Fr.sl {P : Nat → Prop} {σ σ' : St} (h : Fr P σ σ') {k : Nat} (hk : P k) (f : Nat → Int64) : Fr P σ (sl σ' k f) := by
  refine ⟨h.1, h.2.1, fun j hj => ?_, h.2.2.2⟩
  have e : ¬ j = k := fun q => hj (q ▸ hk)
  show (if j = k then f else xl σ' j) = _
  rw [if_neg e]; exact h.2.2.1 j hj
def StR (g : Gr) (σ : St) : Prop := (∃ o, Topo g o ∧ ∀ k, k < gR g → xi σ 7 k = nI (o k)) ∧ (∀ x, x < gR g → ∀ t, tb (xl σ 8 x) t = true ↔ Fst g x t) ∧ ∀ x, x < gR g → ∀ t, tb (xl σ 9 x) t = true ↔ Fol g x t
def StOk (g : Gr) (σ : St) : Prop := (∀ i, tc (xi σ 5 3) i = true ↔ Nul g i) ∧ ∃ (kd : Nat) (v : Int), FaultIs g kd v ∧ xi σ 5 1 = nI kd ∧ xi σ 5 2 = sI v ∧ (kd = 0 → StR g σ)
theorem StOk.of {g : Gr} {σ σ' : St} (h : StOk g σ) (e5 : xi σ' 5 = xi σ 5) (e7 : xi σ' 7 = xi σ 7) (e8 : xl σ' 8 = xl σ 8) (e9 : xl σ' 9 = xl σ 9) : StOk g σ' := by
  unfold StOk StR; rw [e5, e7, e8, e9]; exact h
abbrev p59 (k : Nat) : Prop := 5 ≤ k ∧ k ≤ 9
theorem k_bring (G : GG) {g : Gr} {σ : St} (hw : WF g) (hg : GC g σ) (hc : ¬ xi σ 5 0 = 0 → StOk g σ) :
    ∃ s : Sq, (¬ xi (xa σ, s) 5 0 = 0 ∧ StOk g (xa σ, s) ∧ Fr p59 σ (xa σ, s)) ∧ Ct y_S_bringUpToDate c_S_bringUpToDate 1 none rm_S_bringUpToDate G [.ref (xa σ 5)] (WC G σ) (eqp none (WC G (xa σ, s))) := by
  by_cases c : xi σ 5 0 = 0
  · have f0 : Fr p59 σ (wi σ 5 0 1) := (Fr.refl _ σ).i (by decide) _ _
    obtain ⟨v, h1, t1⟩ := k_findNothing G (σ := wi σ 5 0 1) hw (hg.of rfl rfl rfl rfl)
    have f1 := f0.i (k := 5) (by decide) 3 v
    obtain ⟨f, h2, t2⟩ := k_findLeft G (σ := wi (wi σ 5 0 1) 5 3 v) hw (hg.of rfl rfl rfl rfl) h1
    obtain ⟨σ2, e2⟩ : ∃ σ2, σ2 = si (wi (wi σ 5 0 1) 5 3 v) 6 f := ⟨_, rfl⟩
    have g2 : GC g σ2 := by rw [e2]; exact hg.of rfl rfl rfl rfl
    have f2 : Fr p59 σ σ2 := by rw [e2]; exact f1.si (k := 6) (by decide) f
    have n2 : xi σ2 5 3 = v := by rw [e2]; rfl
    have c2 : xi σ2 5 0 = 1 := by rw [e2]; rfl
    rw [← e2] at t2
    obtain ⟨kd, u, h3, t3⟩ := k_findFault G (σ := σ2) hw g2 (by rw [e2]; exact h2)
    obtain ⟨σ3, e3⟩ : ∃ σ3, σ3 = wi (wi σ2 5 1 (nI kd)) 5 2 (sI u) := ⟨_, rfl⟩
    have g3 : GC g σ3 := by rw [e3]; exact g2.of rfl rfl rfl rfl
    have f3 : Fr p59 σ σ3 := by rw [e3]; exact (f2.i (k := 5) (by decide) _ _).i (k := 5) (by decide) _ _
    have n3 : xi σ3 5 3 = v := by rw [e3]; exact n2
    have c3 : ¬ xi σ3 5 0 = 0 := by rw [e3]; show ¬ xi σ2 5 0 = 0; rw [c2]; decide
    have k3 : xi σ3 5 1 = nI kd := by rw [e3]; rfl
    have u3 : xi σ3 5 2 = sI u := by rw [e3]; rfl
    have l3 : xi σ3 6 = f := by rw [e3, e2]; rfl
    rw [← e3] at t3
    have hb := h3.bd
    have a2 : σ2 = (xa σ, σ2.2) := by rw [e2]; rfl
    have a3 : σ3 = (xa σ, σ3.2) := by rw [e3, e2]; rfl
    by_cases d : kd = 0
    · subst d
      obtain ⟨r0, r2, r3, r4⟩ := h3.right
      obtain ⟨fo, o, ⟨h4, h5⟩, t4⟩ := k_findOrder G (σ := σ3) hw g3 r2 r4 (by rw [l3]; exact h2)
      obtain ⟨fF, h6, t5⟩ := k_findFirsts G (σ := si σ3 7 fo) hw (g3.of rfl rfl rfl rfl) (by show ∀ i, tc (xi σ3 5 3) i = true ↔ _; rw [n3]; exact h1) h4 h5
      obtain ⟨fW, h7, t6⟩ := k_findFollowings G (σ := sl (si σ3 7 fo) 8 fF) hw (g3.of rfl rfl rfl rfl) r0 r2 (by show ∀ i, tc (xi σ3 5 3) i = true ↔ _; rw [n3]; exact h1) h6
      refine ⟨(sl (sl (si σ3 7 fo) 8 fF) 9 fW).2, ⟨c3, ⟨by show ∀ i, tc (xi σ3 5 3) i = true ↔ _; rw [n3]; exact h1, 0, u, h3, k3, u3, fun _ => ⟨⟨o, h4, h5⟩, h6, h7⟩⟩, ?_⟩, ?_⟩
      · have f6 := ((f3.si (k := 7) (by decide) fo).sl (k := 8) (by decide) fF).sl (k := 9) (by decide) fW
        exact ⟨rfl, f6.2⟩
      · rw [a2] at t2 t3
        rw [a3] at t3 t4 t5 t6
        exact ct_S_bringUpToDate_tf G σ (wi (wi σ 5 0 1) 5 3 v).2 σ2.2 σ3.2 (si σ3 7 fo).2 (sl (si σ3 7 fo) 8 fF).2 (sl (sl (si σ3 7 fo) 8 fF) 9 fW).2 c t1 t2 t3 (by rw [← a3, k3]; rfl) t4 t5 t6
    · refine ⟨σ3.2, ⟨by rw [← a3]; exact c3, ?_, by rw [← a3]; exact f3⟩, ?_⟩
      · rw [← a3]
        exact ⟨by rw [n3]; exact h1, kd, u, h3, k3, u3, fun q => absurd q d⟩
      · rw [a2] at t2 t3
        rw [a3] at t3
        exact ct_S_bringUpToDate_tt G σ (wi (wi σ 5 0 1) 5 3 v).2 σ2.2 σ3.2 c t1 t2 t3 (by rw [← a3, k3, n_0, n_eq (by omega) (by omega)]; exact d)
  · exact ⟨σ.2, ⟨c, hc c, Fr.refl _ σ⟩, ct_S_bringUpToDate_f G σ c⟩
