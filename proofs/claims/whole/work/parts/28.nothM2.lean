theorem bF_iff (f : Nat → Int32) (i : Nat) : bF f i = true ↔ i < 16 ∧ ¬ f i = 0 := by simp only [bF, Bool.and_eq_true, decide_eq_true_eq]
def b01 (f : Nat → Int32) (n : Nat) : Prop := ∀ i, i < n → f i = 0 ∨ f i = 1
theorem b01_upd {f : Nat → Int32} {n i : Nat} {v : Int32} (h : b01 f n) (hv : v = 0 ∨ v = 1) : b01 (upd f i v) n := by
  intro j hj
  by_cases e : j = i
  · rw [e, upd_at]; exact hv
  · rw [upd_ne f v e]; exact h j hj
theorem m_fN_alt (G : GG) {g : Gr} {τ : St} (hw : WF g) (hg : GM g τ) (x1 : Int32) {x : Nat} (hx : x < gR g) (B0 : Nat → Bool) (f : Nat → Int32)
    (h : PassN g B0 (bF f) (fun y b => (y < x ∧ b < gA g y) ∨ (y = x ∧ b < 0)) ∧ b01 f 16) :
    ∃ f', (PassN g B0 (bF f') (fun y b => (y < x ∧ b < gA g y) ∨ (y = x ∧ b < gA g x)) ∧ b01 f' 16) ∧ ∀ q, (fun q : KQ => Bd q.1 G q.2.1 "FirstTreesModel" c_M_findNothing 4 none rm_M_findNothing) q →
      Lb q.1 G q.2.1 q.2.2 4 43 [(0, .ref (xa τ 0)), (1, .int x1), (2, .int (nI x)), (3, .int (nI (gA g x)))] [] (WM G (si τ 4 f')) 0 0 →
      Lb q.1 G q.2.1 q.2.2 4 43 [(0, .ref (xa τ 0)), (1, .int x1), (2, .int (nI x)), (3, .int (nI 0))] [] (WM G (si τ 4 f)) 0 0 := by
  have h16 := hw.r
  have h8 := hw.a x
  refine iterL (C := fun q : KQ => Bd q.1 G q.2.1 "FirstTreesModel" c_M_findNothing 4 none rm_M_findNothing) (gA g x) (fun a f => PassN g B0 (bF f) (fun y b => (y < x ∧ b < gA g y) ∨ (y = x ∧ b < a)) ∧ b01 f 16) (fun q a f => Lb q.1 G q.2.1 q.2.2 4 43 [(0, .ref (xa τ 0)), (1, .int x1), (2, .int (nI x)), (3, .int (nI a))] [] (WM G (si τ 4 f)) 0 0) ?_ 0 f (Nat.zero_le _) h
  intro a f ha ⟨hP, h01⟩
  have hg' : GM g (si τ 4 f) := hg.of rfl rfl rfl rfl
  have c50 : ¬ xi (si τ 4 f) 1 x ≤ nI a := by rw [hg'.2.1 x (by omega), n_le (by omega) (by omega)]; omega
  have t := m_rowN G (τ := si τ 4 f) hw hg' (r := x) (a := a) (f := 0) (by omega) (by omega)
  by_cases c64 : f x = 0
  · by_cases c : rowN g (fun y => bM (si τ 4 f) y = true) (8 * x + a) 0
    · refine ⟨upd f x 1, ⟨(hP.step hx (a := a) (by omega) (fun y => ?_)).mono (fun y b q => by omega), b01_upd h01 (.inr rfl)⟩, fun q X k => ?_⟩
      · rw [bF_iff, bF_iff]
        by_cases e : y = x
        · rw [e, upd_at]; exact ⟨fun _ => .inr ⟨rfl, c⟩, fun _ => ⟨by omega, by decide⟩⟩
        · rw [upd_ne f _ e]; exact ⟨fun z => .inl z, fun z => z.elim id (fun z => absurd z.1 e)⟩
      · refine sg_M_findNothing_43_fff43 X (si τ 4 f) _ _ _ x _ rfl (by omega) c50 c64 t (by rw [pI_0]; exact fun q => q c) ?_
        rw [n_s, wi_si]; exact k
    · refine ⟨upd f x 0, ⟨(hP.step hx (a := a) (by omega) (fun y => ?_)).mono (fun y b q => by omega), b01_upd h01 (.inl rfl)⟩, fun q X k => ?_⟩
      · rw [bF_iff, bF_iff]
        by_cases e : y = x
        · rw [e, upd_at, c64]; exact ⟨fun z => absurd rfl z.2, fun z => z.elim id (fun z => absurd z.2 c)⟩
        · rw [upd_ne f _ e]; exact ⟨fun z => .inl z, fun z => z.elim id (fun z => absurd z.1 e)⟩
      · refine sg_M_findNothing_43_fft43 X (si τ 4 f) _ _ _ x _ rfl (by omega) c50 c64 t (by rw [pI_0]; exact c) ?_
        rw [n_s, wi_si]; exact k
  · refine ⟨upd f x 1, ⟨(hP.step hx (a := a) (by omega) (fun y => ?_)).mono (fun y b q => by omega), b01_upd h01 (.inr rfl)⟩, fun q X k => ?_⟩
    · rw [bF_iff, bF_iff]
      by_cases e : y = x
      · rw [e, upd_at]; exact ⟨fun _ => .inl ⟨by omega, c64⟩, fun _ => ⟨by omega, by decide⟩⟩
      · rw [upd_ne f _ e]; exact ⟨fun z => .inl z, fun z => z.elim id (fun z => absurd z.1 e)⟩
    · refine sg_M_findNothing_43_ft43 X (si τ 4 f) _ _ _ x rfl (by omega) c50 c64 ?_
      rw [n_s, wi_si]; exact k
theorem m_fN_rule (G : GG) {g : Gr} {τ : St} (hw : WF g) (hg : GM g τ) (x1 : Int32) (B0 : Nat → Bool) (f : Nat → Int32)
    (h : PassN g B0 (bF f) (fun y b => y < 0 ∧ b < gA g y) ∧ b01 f 16) :
    ∃ f', (PassN g B0 (bF f') (fun y b => y < gR g ∧ b < gA g y) ∧ b01 f' 16) ∧ ∀ q, (fun q : KQ => Bd q.1 G q.2.1 "FirstTreesModel" c_M_findNothing 4 none rm_M_findNothing) q →
      Lb q.1 G q.2.1 q.2.2 4 33 [(0, .ref (xa τ 0)), (1, .int x1), (2, .int (nI (gR g)))] [] (WM G (si τ 4 f')) 0 0 →
      Lb q.1 G q.2.1 q.2.2 4 33 [(0, .ref (xa τ 0)), (1, .int x1), (2, .int (nI 0))] [] (WM G (si τ 4 f)) 0 0 := by
  have h16 := hw.r
  refine iterL (C := fun q : KQ => Bd q.1 G q.2.1 "FirstTreesModel" c_M_findNothing 4 none rm_M_findNothing) (gR g) (fun x f => PassN g B0 (bF f) (fun y b => y < x ∧ b < gA g y) ∧ b01 f 16) (fun q x f => Lb q.1 G q.2.1 q.2.2 4 33 [(0, .ref (xa τ 0)), (1, .int x1), (2, .int (nI x))] [] (WM G (si τ 4 f)) 0 0) ?_ 0 f (Nat.zero_le _) h
  intro x f hx ⟨hP, h01⟩
  have hg' : GM g (si τ 4 f) := hg.of rfl rfl rfl rfl
  have c38 : ¬ xi (si τ 4 f) 0 1 ≤ nI x := by rw [hg'.1, n_le (by omega) (by omega)]; omega
  obtain ⟨f', h1, h2⟩ := m_fN_alt G hw hg x1 hx B0 f ⟨hP.mono (fun y b q => by omega), h01⟩
  have hg2 : GM g (si τ 4 f') := hg.of rfl rfl rfl rfl
  have h8 := hw.a x
  refine ⟨f', ⟨h1.1.mono (fun y b q => by
    by_cases e : y = x
    · subst e; exact .inr ⟨rfl, q.2⟩
    · exact .inl ⟨by omega, q.2⟩), h1.2⟩, fun q X k => ?_⟩
  refine sg_M_findNothing_33_f43 X (si τ 4 f) _ _ c38 (h2 q X ?_)
  refine sg_M_findNothing_43_t33 X (si τ 4 f') _ _ _ x rfl (by omega) ?_ ?_
  · rw [hg2.2.1 x (by omega), n_le (by omega) (by omega)]; omega
  · rw [n_s]; exact k
theorem m_fN_round (G : GG) {g : Gr} {τ : St} (hw : WF g) (hg : GM g τ) (f : Nat → Int32)
    (h : (∀ i, bF f i = true → Nul g i) ∧ (ClosedN g (fun y => bF f y = true) ∨ 0 ≤ cnt (bF f) (gR g)) ∧ b01 f 16) :
    ∃ f', ((∀ i, bF f' i = true → Nul g i) ∧ (ClosedN g (fun y => bF f' y = true) ∨ gR g ≤ cnt (bF f') (gR g)) ∧ b01 f' 16) ∧ ∀ q, (fun q : KQ => Bd q.1 G q.2.1 "FirstTreesModel" c_M_findNothing 4 none rm_M_findNothing) q →
      Lb q.1 G q.2.1 q.2.2 4 23 [(0, .ref (xa τ 0)), (1, .int (nI (gR g)))] [] (WM G (si τ 4 f')) 0 0 →
      Lb q.1 G q.2.1 q.2.2 4 23 [(0, .ref (xa τ 0)), (1, .int (nI 0))] [] (WM G (si τ 4 f)) 0 0 := by
  have h16 := hw.r
  refine iterL (C := fun q : KQ => Bd q.1 G q.2.1 "FirstTreesModel" c_M_findNothing 4 none rm_M_findNothing) (gR g) (fun i f => (∀ i, bF f i = true → Nul g i) ∧ (ClosedN g (fun y => bF f y = true) ∨ i ≤ cnt (bF f) (gR g)) ∧ b01 f 16) (fun q i f => Lb q.1 G q.2.1 q.2.2 4 23 [(0, .ref (xa τ 0)), (1, .int (nI i))] [] (WM G (si τ 4 f)) 0 0) ?_ 0 f (Nat.zero_le _) h
  intro i f hi ⟨hB, hC, h01⟩
  have hg' : GM g (si τ 4 f) := hg.of rfl rfl rfl rfl
  have c28 : ¬ xi (si τ 4 f) 0 1 ≤ nI i := by rw [hg'.1, n_le (by omega) (by omega)]; omega
  obtain ⟨f', h1, h2⟩ := m_fN_rule G hw hg (nI i) (bF f) f ⟨(PassN.start hB).mono (fun y b q => by omega), h01⟩
  have hg2 : GM g (si τ 4 f') := hg.of rfl rfl rfl rfl
  refine ⟨f', ⟨h1.1.2.1, ?_, h1.2⟩, fun q X k => ?_⟩
  · by_cases e : ∀ x, bF f' x = true → bF f x = true
    · exact .inl (h1.1.fin (fun x a p q => ⟨p, q⟩) e)
    · rcases hC with hC | hC
      · exact absurd (fun x hx => h1.1.2.1 x hx _ hC) e
      · have := h1.1.cnt e; exact .inr (by omega)
  · refine sg_M_findNothing_23_f33 X (si τ 4 f) _ c28 (h2 q X ?_)
    refine sg_M_findNothing_33_t23 X (si τ 4 f') _ _ ?_ ?_
    · rw [hg2.1, n_le (by omega) (by omega)]; omega
    · rw [n_s]; exact k
theorem m_findNothing (G : GG) {g : Gr} {τ : St} (hw : WF g) (hg : GM g τ) :
    ∃ f, (∀ i, i < 16 → f i = pI (Nul g i)) ∧ Ct y_M_findNothing c_M_findNothing 4 none rm_M_findNothing G [.ref (xa τ 0)] (WM G τ) (eqp none (WM G (si τ 4 f))) := by
  have h16 := hw.r
  obtain ⟨f0, h0, k0⟩ := iterL (C := fun q : KQ => Bd q.1 G q.2.1 "FirstTreesModel" c_M_findNothing 4 none rm_M_findNothing) 16 (fun i f => ∀ j, j < i → f j = 0) (fun q i f => Lb q.1 G q.2.1 q.2.2 4 2 [(0, .ref (xa τ 0)), (1, .int (nI i))] [] (WM G (si τ 4 f)) 0 0) (by
    intro i f hi hf
    refine ⟨upd f i 0, fun j hj => ?_, fun q X k => ?_⟩
    · by_cases e : j = i
      · rw [e, upd_at]
      · rw [upd_ne f _ e]; exact hf j (by omega)
    · refine sg_M_findNothing_2_f2 X (si τ 4 f) _ i (by rw [show (16 : Int32) = nI 16 from rfl, n_le (by omega) (by omega)]; omega) rfl hi ?_
      rw [n_s, wi_si]; exact k) 0 (xi τ 4) (Nat.zero_le _) (fun j hj => by omega)
  have hb : ∀ i, bF f0 i = true → False := by
    intro i hi
    rw [bF_iff] at hi
    exact hi.2 (h0 i hi.1)
  obtain ⟨f1, h1, k1⟩ := m_fN_round G hw hg f0 ⟨fun i hi => (hb i hi).elim, .inr (Nat.zero_le _), fun i hi => .inl (h0 i hi)⟩
  have hC : ClosedN g (fun y => bF f1 y = true) := by
    rcases h1.2.1 with q | q
    · exact q
    · exact fun x hx a ha _ => cnt_full q x hx
  refine ⟨f1, fun i hi => ?_, ?_⟩
  · have e := Nul_iff h1.1 hC i
    rw [bF_iff] at e
    by_cases c : Nul g i
    · rw [pI_t c]
      rcases h1.2.2 i hi with q | q
      · exact absurd q (e.mpr c).2
      · exact q
    · rw [pI_f c]
      exact Classical.byContradiction (fun q => c (e.mp ⟨hi, q⟩))
  · simp only [si_id] at k0
    refine Ct.of (by decide +kernel) (Nat.le_of_ble_eq_true rfl) (fun K X => ?_)
    refine sg_M_findNothing_0_2 X τ ?_
    refine k0 (K, _, _) X ?_
    refine sg_M_findNothing_2_t23 X (si τ 4 f0) _ (by rw [show (16 : Int32) = nI 16 from rfl, n_le (by omega) (by omega)]; omega) ?_
    refine k1 (K, _, _) X ?_
    exact sg_M_findNothing_23_tr X (si τ 4 f1) _ (by rw [show xi (si τ 4 f1) 0 1 = xi τ 0 1 from rfl, hg.1, n_le (by omega) (by omega)]; omega) ⟨rfl, rfl⟩
