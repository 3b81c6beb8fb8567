def TreeR (σ τ : St) : Prop := ∃ N, N ≤ 2000 ∧ xi σ 24 0 = nI N ∧ xi τ 0 4 = nI N ∧ ∀ j, j < 7 * N → xi σ 25 j = xi τ 16 j
def U7 (τ : St) : Prop := ∃ u, u ≤ 60 ∧ xi τ 0 7 = nI u
def Rel (g : Gr) (T : Nat → Int) (n : Nat) (σ τ : St) : Prop := WF g ∧ WT T n ∧ GC g σ ∧ GM g τ ∧ IC T n σ ∧ IM T n τ ∧ (¬ xi σ 5 0 = 0 → StOk g σ) ∧ TreeR σ τ ∧ U7 τ
section RR
variable {g : Gr} {T : Nat → Int} {n : Nat} {σ τ : St}
theorem Rel.w (h : Rel g T n σ τ) : WF g := h.1
theorem Rel.t (h : Rel g T n σ τ) : WT T n := h.2.1
theorem Rel.c (h : Rel g T n σ τ) : GC g σ := h.2.2.1
theorem Rel.m (h : Rel g T n σ τ) : GM g τ := h.2.2.2.1
theorem Rel.ic (h : Rel g T n σ τ) : IC T n σ := h.2.2.2.2.1
theorem Rel.im (h : Rel g T n σ τ) : IM T n τ := h.2.2.2.2.2.1
theorem Rel.st (h : Rel g T n σ τ) : ¬ xi σ 5 0 = 0 → StOk g σ := h.2.2.2.2.2.2.1
theorem Rel.tr (h : Rel g T n σ τ) : TreeR σ τ := h.2.2.2.2.2.2.2.1
theorem Rel.u (h : Rel g T n σ τ) : U7 τ := h.2.2.2.2.2.2.2.2
theorem Rel.fc {σ' : St} {P : Nat → Prop} (h : Rel g T n σ τ) (F : Fr P σ σ') (hP : (¬ P 1 ∧ ¬ P 2 ∧ ¬ P 3 ∧ ¬ P 4) ∧ ¬ P 10 ∧ ¬ P 11 ∧ ¬ P 24 ∧ ¬ P 25) (hs : ¬ xi σ' 5 0 = 0 → StOk g σ') : Rel g T n σ' τ := by
  refine ⟨h.w, h.t, h.c.fr F hP.1, h.m, ?_, h.im, hs, ?_, h.u⟩
  · unfold IC; rw [F.ei 10 hP.2.1, F.ei 11 hP.2.2.1]; exact h.ic
  · unfold TreeR; rw [F.ei 24 hP.2.2.2.1, F.ei 25 hP.2.2.2.2]; exact h.tr
theorem Rel.fm {τ' : St} {P J : Nat → Prop} (h : Rel g T n σ τ) (F : Fm P J τ τ') (hP : (¬ P 1 ∧ ¬ P 2 ∧ ¬ P 3) ∧ ¬ P 7 ∧ ¬ P 16) (hJ : ¬ J 1 ∧ ¬ J 3 ∧ ¬ J 4) (hu : U7 τ') : Rel g T n σ τ' := by
  refine ⟨h.w, h.t, h.c, h.m.fm F hJ.1 hP.1, h.ic, h.im.fm F hJ.2.1 hP.2.1, h.st, ?_, hu⟩
  unfold TreeR; rw [F.2.1 4 hJ.2.2, F.ei 16 (fun q => q.elim (by decide) hP.2.2)]; exact h.tr
theorem Rel.z (h : Rel g T n σ τ) (v : Int32) : Rel g T n σ (wi τ 0 0 v) :=
  h.fm (P := noP) (J := fun i => i = 0) ((Fm.refl noP (fun i => i = 0) τ).z (i := 0) rfl v) (by decide) (by decide) h.u
theorem xn_fr {σ' : St} {P : Nat → Prop} (F : Fr P σ σ') : xn σ' = xn σ := by
  unfold xn; rw [F.2.2.2]
theorem r_bring (G : GG) (h : Rel g T n σ τ) :
    ∃ (kd : Nat) (v : Int) (s : Sq), FaultIs g kd v ∧ Rel g T n (xa σ, s) τ ∧ Fr p59 σ (xa σ, s) ∧ StOk g (xa σ, s) ∧ xi (xa σ, s) 5 1 = nI kd ∧ xi (xa σ, s) 5 2 = sI v ∧ (kd = 0 → StR g (xa σ, s)) ∧ Ct y_S_bringUpToDate c_S_bringUpToDate 1 none rm_S_bringUpToDate G [.ref (xa σ 5)] (WC G σ) (eqp none (WC G (xa σ, s))) := by
  obtain ⟨s, ⟨h1, h2, h3⟩, t⟩ := k_bring G h.w h.c h.st
  have h2' := h2
  obtain ⟨h4, kd, v, h5, h6, h7, h8⟩ := h2
  exact ⟨kd, v, s, h5, h.fc h3 (by decide) (fun _ => h2'), h3, h2', h6, h7, h8, t⟩
/-- the grammar is right, or not -/
theorem r_right (G : GG) (h : Rel g T n σ τ) :
    ∃ (kd : Nat) (v : Int) (s : Sq), FaultIs g kd v ∧ Rel g T n (xa σ, s) τ ∧ Fr p59 σ (xa σ, s) ∧ StOk g (xa σ, s) ∧
      ((kd = 0 ∧ StR g (xa σ, s) ∧ Ct y_F_mustBeRight c_F_mustBeRight 1 none rm_F_mustBeRight G [.ref (xa σ 0)] (WC G σ) (eqp none (WC G (xa σ, s)))) ∨
       (kd ≠ 0 ∧ CtT y_F_mustBeRight c_F_mustBeRight 1 none rmt_F_mustBeRight G [.ref (xa σ 0)] (WC G σ) "java/lang/IllegalStateException" (fun w' => w' = (WC G (xa σ, s))))) := by
  obtain ⟨kd, v, s, h1, h2, h3, h4, h5, h6, h7, t⟩ := r_bring G h
  refine ⟨kd, v, s, h1, h2, h3, h4, ?_⟩
  have hb := h1.bd
  by_cases c : kd = 0
  · exact .inl ⟨c, h7 c, ct_F_mustBeRight_t G σ s t (by rw [h5, c]; rfl)⟩
  · exact .inr ⟨c, cz_F_mustBeRight_f G σ s t (by rw [h5, n_0, n_eq (by omega) (by omega)]; exact c)⟩
theorem r_fault (G : GG) (h : Rel g T n σ τ) :
    ∃ (kd : Nat) (v : Int) (q : Sq), FaultIs g kd v ∧ Rel g T n σ (xa τ, q) ∧ xi (xa τ, q) 0 0 = xi τ 0 0 ∧ xi (xa τ, q) 0 2 = sI v ∧
      (kd = 0 → (∀ i, i < 16 → xi (xa τ, q) 4 i = pI (Nul g i)) ∧ (∀ y i, y < gR g → i < gR g → (¬ xi (xa τ, q) 5 (16 * y + i) = 0 ↔ Lf g y i))) ∧
      Ct y_M_faultOf c_M_faultOf 4 (some .int) rm_M_faultOf G [.ref (xa τ 0)] (WM G τ) (eqp (some (.int (nI kd))) (WM G (xa τ, q))) := by
  obtain ⟨kd, v, fN, fL, h1, h2, t⟩ := m_faultOf G h.w h.m
  refine ⟨kd, v, (wi (si (si τ 4 fN) 5 fL) 0 2 (sI v)).2, h1, ?_, rfl, rfl, fun q => h2 (.inl q), t⟩
  refine h.fm (P := fun k => k = 4 ∨ k = 5) (J := fun i => i = 2) (τ' := (xa τ, (wi (si (si τ 4 fN) 5 fL) 0 2 (sI v)).2)) ?_ (by decide) (by decide) h.u
  refine Fm.z (J := fun i => i = 2) (σ' := si (si τ 4 fN) 5 fL) ?_ (i := 2) rfl (sI v)
  exact ⟨((Fr.refl _ τ).si (k := 4) (.inr (.inl rfl)) fN).si (k := 5) (.inr (.inr rfl)) fL, fun _ _ => rfl, rfl⟩
/-- the reference's look -/
theorem r_look (G : GG) (h : Rel g T n σ τ) (x : Int32) :
    ∃ (kd : Nat) (v : Int) (q : Sq), FaultIs g kd v ∧ Rel g T n σ (xa τ, q) ∧ Ct y_M_look c_M_look 2 none rm_M_look G [.ref (xa τ 0), .int x] (WM G τ) (eqp none (WM G (xa τ, q))) ∧
      ((kd ≠ 0 ∧ xi (xa τ, q) 0 0 = 1) ∨ (kd = 0 ∧ ¬ (0 ≤ x ∧ x < nI (gR g)) ∧ xi (xa τ, q) 0 0 = 2) ∨
       (kd = 0 ∧ (0 ≤ x ∧ x < nI (gR g)) ∧ xi (xa τ, q) 0 0 = 0 ∧ (∀ i, i < 16 → xi (xa τ, q) 4 i = pI (Nul g i)) ∧ (∀ x, x < gR g → ∀ t, tb (xl (xa τ, q) 14 x) t = true ↔ Fst g x t) ∧ (∀ x, x < gR g → ∀ t, tb (xl (xa τ, q) 15 x) t = true ↔ Fol g x t))) := by
  obtain ⟨kd, v, q, h1, h2, h3, h4, h5, t⟩ := r_fault G h
  have hb := h1.bd
  by_cases c : kd = 0
  · subst c
    obtain ⟨r0, r2, r3, r4⟩ := h1.right
    have e1 : xi (xa τ, q) 0 1 = nI (gR g) := h2.m.1
    by_cases d : 0 ≤ x ∧ x < nI (gR g)
    · obtain ⟨fF, fW, ⟨b1, b2⟩, t2⟩ := m_findSets G (τ := wi (xa τ, q) 0 0 0) h.w (h2.z 0).m r0 r2 r4 (h5 rfl).1
      refine ⟨0, v, (sl (sl (wi (xa τ, q) 0 0 0) 14 fF) 15 fW).2, h1, ?_, ct_M_look_tt G τ x _ q _ t rfl (by rw [e1, b2i_t d]; decide) t2, .inr (.inr ⟨rfl, d, rfl, (h5 rfl).1, b1, b2⟩)⟩
      refine (h2.z 0).fm (P := fun k => k = 14 ∨ k = 15) (J := noP) (τ' := (xa τ, (sl (sl (wi (xa τ, q) 0 0 0) 14 fF) 15 fW).2)) ?_ (by decide) (by decide) (h2.z 0).u
      exact ⟨((Fr.refl _ (wi (xa τ, q) 0 0 0)).sl (k := 14) (.inr (.inl rfl)) fF).sl (k := 15) (.inr (.inr rfl)) fW, fun _ _ => rfl, rfl⟩
    · exact ⟨0, v, (wi (xa τ, q) 0 0 2).2, h1, h2.z 2, ct_M_look_tf G τ x _ q t rfl (by rw [e1, b2i_f d]), .inr (.inl ⟨rfl, d, rfl⟩)⟩
  · exact ⟨kd, v, (wi (xa τ, q) 0 0 1).2, h1, h2.z 1, ct_M_look_f G τ x _ q t (by rw [n_0, n_eq (by omega) (by omega)]; exact c), .inl ⟨c, rfl⟩⟩
end RR
