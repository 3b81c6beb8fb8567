/-! the reference's chart -/
def Fm (P J : Nat → Prop) (σ σ' : St) : Prop := Fr (fun k => k = 0 ∨ P k) σ σ' ∧ (∀ i, ¬ J i → xi σ' 0 i = xi σ 0 i) ∧ xl σ' 0 = xl σ 0
theorem Fm.refl (P J : Nat → Prop) (σ : St) : Fm P J σ σ := ⟨Fr.refl _ _, fun _ _ => rfl, rfl⟩
theorem Fm.trans {P J : Nat → Prop} {σ σ' σ'' : St} (h : Fm P J σ σ') (h' : Fm P J σ' σ'') : Fm P J σ σ'' := ⟨h.1.trans h'.1, fun i hi => (h'.2.1 i hi).trans (h.2.1 i hi), h'.2.2.trans h.2.2⟩
theorem Fm.mono {P J P' J' : Nat → Prop} {σ σ' : St} (h : Fm P J σ σ') (hp : ∀ k, P k → P' k) (hj : ∀ k, J k → J' k) : Fm P' J' σ σ' := ⟨h.1.mono (fun k hk => hk.elim .inl (fun q => .inr (hp k q))), fun i hi => h.2.1 i (fun q => hi (hj i q)), h.2.2⟩
theorem Fm.z {P J : Nat → Prop} {σ σ' : St} (h : Fm P J σ σ') {i : Nat} (hi : J i) (v : Int32) : Fm P J σ (wi σ' 0 i v) := by
  refine ⟨h.1.i (.inl rfl) i v, fun j hj => ?_, h.2.2⟩
  have e : j ≠ i := fun q => hj (q ▸ hi)
  show upd (xi σ' 0) i v j = _
  rw [upd_ne _ _ e]; exact h.2.1 j hj
theorem Fm.i {P J : Nat → Prop} {σ σ' : St} (h : Fm P J σ σ') {k : Nat} (hk : P k) (h0 : 0 ≠ k) (i : Nat) (v : Int32) : Fm P J σ (wi σ' k i v) := by
  refine ⟨h.1.i (.inr hk) i v, fun j hj => ?_, h.2.2⟩
  show (if 0 = k then _ else xi σ' 0) j = _
  rw [if_neg h0]; exact h.2.1 j hj
theorem Fm.l {P J : Nat → Prop} {σ σ' : St} (h : Fm P J σ σ') {k : Nat} (hk : P k) (h0 : 0 ≠ k) (i : Nat) (v : Int64) : Fm P J σ (wl σ' k i v) := by
  refine ⟨h.1.l (.inr hk) i v, h.2.1, ?_⟩
  show (if 0 = k then _ else xl σ' 0) = _
  rw [if_neg h0]; exact h.2.2
theorem Fm.ei {P J : Nat → Prop} {σ σ' : St} (h : Fm P J σ σ') (k : Nat) (hk : ¬ (k = 0 ∨ P k)) : xi σ' k = xi σ k := h.1.ei k hk
theorem Fm.el {P J : Nat → Prop} {σ σ' : St} (h : Fm P J σ σ') (k : Nat) (hk : ¬ (k = 0 ∨ P k)) : xl σ' k = xl σ k := h.1.el k hk
theorem GM.fm {g : Gr} {P J : Nat → Prop} {σ σ' : St} (hg : GM g σ) (h : Fm P J σ σ') (h1 : ¬ J 1) (hp : ¬ P 1 ∧ ¬ P 2 ∧ ¬ P 3) : GM g σ' :=
  hg.of (h.2.1 1 h1) (h.ei 1 (fun q => q.elim (by decide) hp.1)) (h.ei 2 (fun q => q.elim (by decide) hp.2.1)) (h.ei 3 (fun q => q.elim (by decide) hp.2.2))
theorem IM.fm {T : Nat → Int} {n : Nat} {P J : Nat → Prop} {σ σ' : St} (hI : IM T n σ) (h : Fm P J σ σ') (h3 : ¬ J 3) (hp : ¬ P 7) : IM T n σ' := by
  unfold IM; rw [h.2.1 3 h3, h.ei 7 (fun q => q.elim (by decide) hp)]; exact hI
def isMx (S : Nat → Prop) (v : Nat) : Prop := S v ∧ ∀ m, S m → m ≤ v
theorem isMx.mx {S : Nat → Prop} {v e : Nat} (h : isMx S v) (hv : v ≤ e) : mx S e = v := mx_eq hv h.1 (fun m _ w => h.2 m w)
theorem isMx.congr {S S' : Nat → Prop} {v : Nat} (h : isMx S v) (hs : ∀ m, S m ↔ S' m) : isMx S' v := ⟨(hs v).mp h.1, fun m w => h.2 m ((hs m).mpr w)⟩
theorem shr0 {x : Int64} {p : Nat} (h : p < 64) : shrL x (nI p) &&& 1 = 0 ↔ ¬ tb x p = true := by unfold shrL; rw [sh0 h, Bool.not_eq_true]
theorem shr1 {x : Int64} {p : Nat} (h : p < 64) : shrL x (nI p) &&& 1 = 1 ↔ tb x p = true := by unfold shrL; rw [sh1 h]
theorem m61' (a b : Nat) : 61 * nI a + nI b = nI (61 * a + b) := by
  rw [show (61 : Int32) = nI 61 from rfl, n_mul, n_add]
abbrev j7 (i : Nat) : Prop := i = 7
abbrev noP (_ : Nat) : Prop := False
/-- the reference's entry of y from q -/
def okM (g : Gr) (T : Nat → Int) (n : Nat) (τ : St) (y q : Nat) : Prop := (∀ i, tb (xl τ 8 (61 * y + q)) i = true ↔ En g T n y q i) ∧ xi τ 9 (61 * y + q) = nI (far g T n y q)
theorem okM.fm {g : Gr} {T : Nat → Int} {n : Nat} {P J : Nat → Prop} {σ σ' : St} {y q : Nat} (h : okM g T n σ y q) (hf : Fm P J σ σ') (hp : ¬ P 8 ∧ ¬ P 9) : okM g T n σ' y q := by
  unfold okM; rw [hf.el 8 (fun q => q.elim (by decide) hp.1), hf.ei 9 (fun q => q.elim (by decide) hp.2)]; exact h
def tp (g : Gr) (T : Nat → Int) (n : Nat) (z : Int) (p m : Nat) : Prop := m = p ∨ (0 ≤ z ∧ p < n ∧ T p = z ∧ m = p + 1) ∨ (z < 0 ∧ Tc g T n (rl z) p m)
theorem m_step1 (G : GG) {g : Gr} {T : Nat → Int} {n : Nat} {τ : St} (hT : WT T n) (hI : IM T n τ) {w acc : Int64} {z : Int} {p u : Nat} (h1 : -16 ≤ z) (h2 : z ≤ 31) (hp : p ≤ n) (hb : tb w p = true) (hu : xi τ 0 7 = nI u) (hu6 : u ≤ 60)
    (hok : z < 0 → rl z < gR g ∧ okM g T n τ (rl z) p) :
    ∃ (s : Sq) (acc' : Int64) (v : Nat), (Fm noP j7 τ (xa τ, s) ∧ xi (xa τ, s) 0 7 = nI v ∧ v ≤ 60 ∧ isMx (fun m => m = u ∨ tp g T n z p m) v ∧ (∀ i, tb acc' i = true ↔ (tb acc i = true ∨ syE (En g T n) T n z p i))) ∧
      ∀ q, (fun q : KP => Bd q.1 G q.2.1 "FirstTreesModel" c_M_step 8 (some .long) rm_M_step) q → Lb q.1 G q.2.1 (Qe q.1 G q.2.1 q.2.2 rm_M_step) 8 6 [(0, .ref (xa τ 0)), (1, .long w), (3, .int (sI z)), (4, .long acc'), (6, .int (nI (p + 1)))] [] (WM G (xa τ, s)) 0 0 →
        Lb q.1 G q.2.1 (Qe q.1 G q.2.1 q.2.2 rm_M_step) 8 6 [(0, .ref (xa τ 0)), (1, .long w), (3, .int (sI z)), (4, .long acc), (6, .int (nI p))] [] (WM G τ) 0 0 := by
  have h60 := hT.1
  have c12 : ¬ xi τ 0 3 < nI p := by rw [hI.1, n_lt (by omega) (by omega)]; omega
  have c22 : ¬ shrL w (nI p) &&& 1 = 0 := by rw [shr0 (by omega)]; exact fun q => q hb
  by_cases c : z < 0
  · obtain ⟨hy, o1, o2⟩ := hok c
    have c55 : ¬ b2i (decide (sI z < 0)) = 0 := by rw [isr_1 h1 h2 c]; decide
    have e77 : 61 * ((-1) - sI z) + nI p = nI (61 * rl z + p) := by rw [rl_sI c, m61']
    have h77 : 61 * rl z + p < 976 := by unfold rl; omega
    have hfb := far_bd (g := g) (T := T) (e := n) hy hp
    have hfT : Tc g T n (rl z) p (far g T n (rl z) p) := (mx_in hp (Tc_self hy hp)).1
    have hfu : ∀ m, Tc g T n (rl z) p m → m ≤ far g T n (rl z) p := fun m w => (mx_in (Tc_bd w).2.2 w).2
    have bits : ∀ i, tb (acc ||| xl τ 8 (61 * rl z + p)) i = true ↔ (tb acc i = true ∨ syE (En g T n) T n z p i) := by
      intro i
      rw [tb_or, Bool.or_eq_true, o1]
      exact ⟨fun q => q.elim .inl (fun q => .inr (.inr ⟨c, q⟩)), fun q => q.elim .inl (fun q => q.elim (fun q => absurd q.1 (by omega)) (fun q => .inr q.2))⟩
    have ismx : ∀ v, (v = u ∨ v = p ∨ v = far g T n (rl z) p) → u ≤ v → p ≤ v → far g T n (rl z) p ≤ v → isMx (fun m => m = u ∨ tp g T n z p m) v := by
      intro v hv a1 a2 a3
      refine ⟨?_, ?_⟩
      · rcases hv with q | q | q
        · exact .inl q
        · exact .inr (.inl q)
        · exact .inr (.inr (.inr ⟨c, by rw [q]; exact hfT⟩))
      · rintro m (q | q | q | q)
        · omega
        · omega
        · omega
        · have := hfu m q.2; omega
    by_cases c36 : p ≤ u
    · have d36 : nI p ≤ xi τ 0 7 := by rw [hu, n_le (by omega) (by omega)]; exact c36
      by_cases c93 : far g T n (rl z) p ≤ u
      · refine ⟨(wi (wi τ 0 7 (xi τ 0 7)) 0 7 (xi τ 0 7)).2, acc ||| xl τ 8 (61 * rl z + p), u, ⟨((Fm.refl noP j7 τ).z (i := 7) rfl _).z (i := 7) rfl _, hu, hu6, ismx u (.inl rfl) (by omega) (by omega) (by omega), bits⟩, fun q X kk => ?_⟩
        refine sg_M_step_6_fttft6 X τ _ _ _ _ (61 * rl z + p) c12 c22 d36 c55 e77 h77 (by rw [o2, hu, n_le (by omega) (by omega)]; exact c93) ?_
        rw [n_s]; exact kk
      · refine ⟨(wi (wi τ 0 7 (xi τ 0 7)) 0 7 (xi τ 9 (61 * rl z + p))).2, acc ||| xl τ 8 (61 * rl z + p), far g T n (rl z) p, ⟨((Fm.refl noP j7 τ).z (i := 7) rfl _).z (i := 7) rfl _, o2, by omega, ismx _ (.inr (.inr rfl)) (by omega) (by omega) (by omega), bits⟩, fun q X kk => ?_⟩
        refine sg_M_step_6_fttff6 X τ _ _ _ _ (61 * rl z + p) c12 c22 d36 c55 e77 h77 (by rw [o2, hu, n_le (by omega) (by omega)]; exact c93) ?_
        rw [n_s]; exact kk
    · have d36 : ¬ nI p ≤ xi τ 0 7 := by rw [hu, n_le (by omega) (by omega)]; exact c36
      by_cases c93 : far g T n (rl z) p ≤ p
      · refine ⟨(wi (wi τ 0 7 (nI p)) 0 7 (nI p)).2, acc ||| xl τ 8 (61 * rl z + p), p, ⟨((Fm.refl noP j7 τ).z (i := 7) rfl _).z (i := 7) rfl _, rfl, by omega, ismx p (.inr (.inl rfl)) (by omega) (by omega) (by omega), bits⟩, fun q X kk => ?_⟩
        refine sg_M_step_6_ftfft6 X τ _ _ _ _ (61 * rl z + p) c12 c22 d36 c55 e77 h77 (by rw [o2, n_le (by omega) (by omega)]; exact c93) ?_
        rw [n_s]; exact kk
      · refine ⟨(wi (wi τ 0 7 (nI p)) 0 7 (xi τ 9 (61 * rl z + p))).2, acc ||| xl τ 8 (61 * rl z + p), far g T n (rl z) p, ⟨((Fm.refl noP j7 τ).z (i := 7) rfl _).z (i := 7) rfl _, o2, by omega, ismx _ (.inr (.inr rfl)) (by omega) (by omega) (by omega), bits⟩, fun q X kk => ?_⟩
        refine sg_M_step_6_ftfff6 X τ _ _ _ _ (61 * rl z + p) c12 c22 d36 c55 e77 h77 (by rw [o2, n_le (by omega) (by omega)]; exact c93) ?_
        rw [n_s]; exact kk
  · have c55 : b2i (decide (sI z < 0)) = 0 := isr_0 h1 h2 c
    by_cases d : p < n ∧ T p = z
    · have c122 : ¬ xi τ 0 3 ≤ nI p := by rw [hI.1, n_le (by omega) (by omega)]; omega
      have c133 : xi τ 7 p = sI z := by rw [hI.2 p (by omega), d.2]
      have bits : ∀ i, tb (acc ||| shlL 1 (nI p + 1)) i = true ↔ (tb acc i = true ∨ syE (En g T n) T n z p i) := by
        intro i
        rw [n_s, tb_or, Bool.or_eq_true, tb_shlL (by omega), decide_eq_true_eq]
        exact ⟨fun q => q.elim .inl (fun q => .inr (.inl ⟨by omega, d.1, d.2, q⟩)), fun q => q.elim .inl (fun q => q.elim (fun q => .inr q.2.2.2) (fun q => absurd q.1 c))⟩
      have ismx : ∀ v, (v = u ∨ v = p + 1) → u ≤ v → p + 1 ≤ v → isMx (fun m => m = u ∨ tp g T n z p m) v := by
        intro v hv a1 a2
        refine ⟨?_, ?_⟩
        · rcases hv with q | q
          · exact .inl q
          · exact .inr (.inr (.inl ⟨by omega, d.1, d.2, q⟩))
        · rintro m (q | q | q | q)
          · omega
          · omega
          · omega
          · exact absurd q.1 c
      by_cases c36 : p ≤ u
      · have d36 : nI p ≤ xi τ 0 7 := by rw [hu, n_le (by omega) (by omega)]; exact c36
        by_cases c156 : p + 1 ≤ u
        · refine ⟨(wi (wi τ 0 7 (xi τ 0 7)) 0 7 (xi τ 0 7)).2, acc ||| shlL 1 (nI p + 1), u, ⟨((Fm.refl noP j7 τ).z (i := 7) rfl _).z (i := 7) rfl _, hu, hu6, ismx u (.inl rfl) (by omega) (by omega), bits⟩, fun q X kk => ?_⟩
          refine sg_M_step_6_ftttfft6 X τ _ _ _ _ p c12 c22 d36 c55 c122 rfl (by omega) c133 (by rw [n_s, hu, n_le (by omega) (by omega)]; exact c156) ?_
          rw [← n_s] at kk; exact kk
        · refine ⟨(wi (wi τ 0 7 (xi τ 0 7)) 0 7 (nI p + 1)).2, acc ||| shlL 1 (nI p + 1), p + 1, ⟨((Fm.refl noP j7 τ).z (i := 7) rfl _).z (i := 7) rfl _, n_s p, by omega, ismx _ (.inr rfl) (by omega) (by omega), bits⟩, fun q X kk => ?_⟩
          refine sg_M_step_6_ftttfff6 X τ _ _ _ _ p c12 c22 d36 c55 c122 rfl (by omega) c133 (by rw [n_s, hu, n_le (by omega) (by omega)]; exact c156) ?_
          rw [← n_s] at kk; exact kk
      · have d36 : ¬ nI p ≤ xi τ 0 7 := by rw [hu, n_le (by omega) (by omega)]; exact c36
        refine ⟨(wi (wi τ 0 7 (nI p)) 0 7 (nI p + 1)).2, acc ||| shlL 1 (nI p + 1), p + 1, ⟨((Fm.refl noP j7 τ).z (i := 7) rfl _).z (i := 7) rfl _, n_s p, by omega, ismx _ (.inr rfl) (by omega) (by omega), bits⟩, fun q X kk => ?_⟩
        refine sg_M_step_6_ftftfff6 X τ _ _ _ _ p c12 c22 d36 c55 c122 rfl (by omega) c133 (by rw [n_s, n_le (by omega) (by omega)]; omega) ?_
        rw [← n_s] at kk; exact kk
    · have bits : ∀ i, tb acc i = true ↔ (tb acc i = true ∨ syE (En g T n) T n z p i) := by
        intro i
        exact ⟨.inl, fun q => q.elim id (fun q => q.elim (fun q => absurd ⟨q.2.1, q.2.2.1⟩ d) (fun q => absurd q.1 c))⟩
      have ismx : ∀ v, (v = u ∨ v = p) → u ≤ v → p ≤ v → isMx (fun m => m = u ∨ tp g T n z p m) v := by
        intro v hv a1 a2
        refine ⟨?_, ?_⟩
        · rcases hv with q | q
          · exact .inl q
          · exact .inr (.inl q)
        · rintro m (q | q | q | q)
          · omega
          · omega
          · exact absurd ⟨q.2.1, q.2.2.1⟩ d
          · exact absurd q.1 c
      by_cases c122 : n ≤ p
      · have d122 : xi τ 0 3 ≤ nI p := by rw [hI.1, n_le (by omega) (by omega)]; omega
        by_cases c36 : p ≤ u
        · refine ⟨(wi τ 0 7 (xi τ 0 7)).2, acc, u, ⟨(Fm.refl noP j7 τ).z (i := 7) rfl _, hu, hu6, ismx u (.inl rfl) (by omega) (by omega), bits⟩, fun q X kk => ?_⟩
          refine sg_M_step_6_ftttt6 X τ _ _ _ _ c12 c22 (by rw [hu, n_le (by omega) (by omega)]; exact c36) c55 d122 ?_
          rw [n_s]; exact kk
        · refine ⟨(wi τ 0 7 (nI p)).2, acc, p, ⟨(Fm.refl noP j7 τ).z (i := 7) rfl _, rfl, by omega, ismx p (.inr rfl) (by omega) (by omega), bits⟩, fun q X kk => ?_⟩
          refine sg_M_step_6_ftftt6 X τ _ _ _ _ c12 c22 (by rw [hu, n_le (by omega) (by omega)]; exact c36) c55 d122 ?_
          rw [n_s]; exact kk
      · have d122 : ¬ xi τ 0 3 ≤ nI p := by rw [hI.1, n_le (by omega) (by omega)]; omega
        have hTp := hT.2 p
        have c133 : ¬ xi τ 7 p = sI z := by
          rw [hI.2 p (by omega), sI_eq (by omega) (by omega) (by omega) (by omega)]
          exact fun q => d ⟨by omega, q⟩
        by_cases c36 : p ≤ u
        · refine ⟨(wi τ 0 7 (xi τ 0 7)).2, acc, u, ⟨(Fm.refl noP j7 τ).z (i := 7) rfl _, hu, hu6, ismx u (.inl rfl) (by omega) (by omega), bits⟩, fun q X kk => ?_⟩
          refine sg_M_step_6_ftttft6 X τ _ _ _ _ p c12 c22 (by rw [hu, n_le (by omega) (by omega)]; exact c36) c55 d122 rfl (by omega) c133 ?_
          rw [n_s]; exact kk
        · refine ⟨(wi τ 0 7 (nI p)).2, acc, p, ⟨(Fm.refl noP j7 τ).z (i := 7) rfl _, rfl, by omega, ismx p (.inr rfl) (by omega) (by omega), bits⟩, fun q X kk => ?_⟩
          refine sg_M_step_6_ftftft6 X τ _ _ _ _ p c12 c22 (by rw [hu, n_le (by omega) (by omega)]; exact c36) c55 d122 rfl (by omega) c133 ?_
          rw [n_s]; exact kk
theorem m_step (G : GG) {g : Gr} {T : Nat → Int} {n : Nat} {τ : St} (hT : WT T n) (hI : IM T n τ) {w : Int64} {z : Int} {u : Nat} (h1 : -16 ≤ z) (h2 : z ≤ 31) (S : Nat → Prop) (hS : ∀ i, tb w i = true ↔ S i) (hSn : ∀ i, S i → i ≤ n) (hu : xi τ 0 7 = nI u) (hu6 : u ≤ 60)
    (hok : z < 0 → ∀ p, S p → rl z < gR g ∧ okM g T n τ (rl z) p) :
    ∃ (s : Sq) (r : Int64) (v : Nat), (Fm noP j7 τ (xa τ, s) ∧ xi (xa τ, s) 0 7 = nI v ∧ v ≤ 60 ∧ isMx (tch g T n u S z) v ∧ (∀ i, tb r i = true ↔ stS g T n S z i)) ∧
      Ct y_M_step c_M_step 8 (some .long) rm_M_step G [.ref (xa τ 0), .long w, .int (sI z)] (WM G τ) (eqp (some (.long r)) (WM G (xa τ, s))) := by
  have h60 := hT.1
  obtain ⟨⟨s, r, v⟩, ⟨a1, a2, a3, a4, a5⟩, k1⟩ := iterL (α := Sq × Int64 × Nat) (C := fun q : KP => Bd q.1 G q.2.1 "FirstTreesModel" c_M_step 8 (some .long) rm_M_step) (n + 1)
    (fun p b => Fm noP j7 τ (xa τ, b.1) ∧ xi (xa τ, b.1) 0 7 = nI b.2.2 ∧ b.2.2 ≤ 60 ∧ isMx (fun m => m = u ∨ ∃ q, q < p ∧ S q ∧ tp g T n z q m) b.2.2 ∧ (∀ i, tb b.2.1 i = true ↔ ∃ q, q < p ∧ S q ∧ syE (En g T n) T n z q i))
    (fun q p b => Lb q.1 G q.2.1 (Qe q.1 G q.2.1 q.2.2 rm_M_step) 8 6 [(0, .ref (xa τ 0)), (1, .long w), (3, .int (sI z)), (4, .long b.2.1), (6, .int (nI p))] [] (WM G (xa τ, b.1)) 0 0) (by
    intro p ⟨s, r, v⟩ hp ⟨a1, a2, a3, a4, a5⟩
    have a1 : Fm noP j7 τ (xa τ, s) := a1
    have a2 : xi (xa τ, s) 0 7 = nI v := a2
    have a3 : v ≤ 60 := a3
    have a4 : isMx (fun m => m = u ∨ ∃ q, q < p ∧ S q ∧ tp g T n z q m) v := a4
    have a5 : ∀ i, tb r i = true ↔ ∃ q, q < p ∧ S q ∧ syE (En g T n) T n z q i := a5
    have hI' : IM T n (xa τ, s) := hI.fm a1 (by decide) (fun q => q)
    by_cases c : S p
    · obtain ⟨s', r', v', ⟨b1, b2, b3, b4, b5⟩, kk1⟩ := m_step1 G (g := g) (τ := (xa τ, s)) (w := w) (acc := r) (p := p) hT hI' h1 h2 (by omega) ((hS p).mpr c) a2 a3 (fun hz => ⟨(hok hz p c).1, (hok hz p c).2.fm a1 ⟨fun q => q, fun q => q⟩⟩)
      refine ⟨(s', r', v'), ⟨a1.trans b1, b2, b3, ?_, fun i => ?_⟩, fun q X kk => kk1 q X kk⟩
      · refine ⟨?_, ?_⟩
        · rcases b4.1 with q | q
          · rcases a4.1 with q2 | ⟨i, q1, q2, q3⟩
            · exact .inl (q.trans q2)
            · exact .inr ⟨i, by omega, q2, by rw [q]; exact q3⟩
          · exact .inr ⟨p, by omega, c, q⟩
        · rintro m (q | ⟨i, q1, q2, q3⟩)
          · have := a4.2 m (.inl q)
            have := b4.2 v (.inl rfl)
            show m ≤ v'
            omega
          · by_cases ei : i = p
            · subst ei; exact b4.2 m (.inr q3)
            · have := a4.2 m (.inr ⟨i, by omega, q2, q3⟩)
              have := b4.2 v (.inl rfl)
              show m ≤ v'
              omega
      · show tb r' i = true ↔ _
        rw [b5, a5]
        constructor
        · rintro (⟨q, q1, q2, q3⟩ | q)
          · exact ⟨q, by omega, q2, q3⟩
          · exact ⟨p, by omega, c, q⟩
        · rintro ⟨q, q1, q2, q3⟩
          by_cases ei : q = p
          · subst ei; exact .inr q3
          · exact .inl ⟨q, by omega, q2, q3⟩
    · have hx : ∀ (P : Nat → Prop), (∃ q, q < p + 1 ∧ S q ∧ P q) ↔ ∃ q, q < p ∧ S q ∧ P q := by
        intro P
        constructor
        · rintro ⟨q, q1, q2, q3⟩
          refine ⟨q, ?_, q2, q3⟩
          by_cases ei : q = p
          · subst ei; exact absurd q2 c
          · omega
        · rintro ⟨q, q1, q2, q3⟩; exact ⟨q, by omega, q2, q3⟩
      refine ⟨(s, r, v), ⟨a1, a2, a3, a4.congr (fun m => by rw [hx]), fun i => by rw [hx]; exact a5 i⟩, fun q X kk => ?_⟩
      refine sg_M_step_6_ff6 X (xa τ, s) _ _ _ _ (by rw [hI'.1, n_lt (by omega) (by omega)]; omega) (by rw [shr0 (by omega), hS]; exact c) ?_
      rw [n_s]; exact kk) 0 (τ.2, 0, u) (Nat.zero_le _) ⟨Fm.refl _ _ _, hu, hu6, ⟨.inl rfl, by
        rintro m (q | ⟨q, q1, _⟩)
        · exact Nat.le_of_eq q
        · exact absurd q1 (Nat.not_lt_zero _)⟩, fun i => by
        show tb 0 i = true ↔ _
        rw [tb_0]; exact ⟨fun q => (by cases q), fun ⟨q, q1, _⟩ => absurd q1 (Nat.not_lt_zero _)⟩⟩
  have a1 : Fm noP j7 τ (xa τ, s) := a1
  have a4 : isMx (fun m => m = u ∨ ∃ q, q < n + 1 ∧ S q ∧ tp g T n z q m) v := a4
  have a5 : ∀ i, tb r i = true ↔ ∃ q, q < n + 1 ∧ S q ∧ syE (En g T n) T n z q i := a5
  have hI' : IM T n (xa τ, s) := hI.fm a1 (by decide) (fun q => q)
  refine ⟨s, r, v, ⟨a1, a2, a3, a4.congr (fun m => ?_), fun i => ?_⟩, ?_⟩
  · unfold tch tp
    constructor
    · rintro (q | ⟨i, q1, q2, q3 | q3 | q3⟩)
      · exact .inl q
      · subst q3; exact .inr (.inl q2)
      · exact .inr (.inr (.inl ⟨q3.1, i, q2, q3.2⟩))
      · exact .inr (.inr (.inr ⟨q3.1, i, q2, q3.2⟩))
    · rintro (q | q | ⟨q1, i, q2, q3⟩ | ⟨q1, i, q2, q3⟩)
      · exact .inl q
      · exact .inr ⟨m, by have := hSn m q; omega, q, .inl rfl⟩
      · exact .inr ⟨i, by have := hSn i q2; omega, q2, .inr (.inl ⟨q1, q3⟩)⟩
      · exact .inr ⟨i, by have := hSn i q2; omega, q2, .inr (.inr ⟨q1, q3⟩)⟩
  · rw [a5]
    exact ⟨fun ⟨q, q1, q2, q3⟩ => ⟨q, q2, q3⟩, fun ⟨q, q2, q3⟩ => ⟨q, by have := hSn q q2; omega, q2, q3⟩⟩
  · refine Ct.of (by decide +kernel) (Nat.le_of_ble_eq_true rfl) (fun K X => ?_)
    refine sg_M_step_0_6 X τ _ _ (k1 (K, _, _) X ?_)
    exact sg_M_step_6_tr X (xa τ, s) _ _ _ _ (by rw [hI'.1, n_lt (by omega) (by omega)]; omega) ⟨rfl, rfl⟩
theorem m_along (G : GG) {g : Gr} {T : Nat → Int} {n : Nat} {τ : St} (hw : WF g) (hg : GM g τ) (hT : WT T n) (hI : IM T n τ) {x a p u : Nat} (hx : x < 16) (ha : a < 8) (hp : p ≤ n) (hu : xi τ 0 7 = nI u) (hu6 : u ≤ 60)
    (hok : ∀ k, k < gL g (8 * x + a) → ∀ m, Run g T n (8 * x + a) k p m → gY g (8 * x + a) k < 0 → rl (gY g (8 * x + a) k) < gR g ∧ okM g T n τ (rl (gY g (8 * x + a) k)) m) :
    ∃ (s : Sq) (r : Int64) (v : Nat), (Fm noP j7 τ (xa τ, s) ∧ xi (xa τ, s) 0 7 = nI v ∧ v ≤ 60 ∧ (u = p → v = rfar g T n (8 * x + a) (gL g (8 * x + a)) p) ∧ (∀ i, tb r i = true ↔ Run g T n (8 * x + a) (gL g (8 * x + a)) p i)) ∧
      Ct y_M_alongAlternative c_M_alongAlternative 8 (some .long) rm_M_alongAlternative G [.ref (xa τ 0), .long (shlL 1 (nI p)), .int (nI x), .int (nI a)] (WM G τ) (eqp (some (.long r)) (WM G (xa τ, s))) := by
  have h60 := hT.1
  have hl := hw.l (8 * x + a)
  obtain ⟨⟨s, r, v⟩, ⟨a1, a2, a3, a4, a5⟩, k1⟩ := iterL (α := Sq × Int64 × Nat) (C := fun q : KP => Bd q.1 G q.2.1 "FirstTreesModel" c_M_alongAlternative 8 (some .long) rm_M_alongAlternative) (gL g (8 * x + a))
    (fun k b => Fm noP j7 τ (xa τ, b.1) ∧ xi (xa τ, b.1) 0 7 = nI b.2.2 ∧ b.2.2 ≤ 60 ∧ (u = p → b.2.2 = rfar g T n (8 * x + a) k p) ∧ (∀ i, tb b.2.1 i = true ↔ Run g T n (8 * x + a) k p i))
    (fun q k b => Lb q.1 G q.2.1 (Qe q.1 G q.2.1 q.2.2 rm_M_alongAlternative) 8 6 [(0, .ref (xa τ 0)), (1, .long (shlL 1 (nI p))), (3, .int (nI x)), (4, .int (nI a)), (5, .long b.2.1), (7, .int (nI k))] [] (WM G (xa τ, b.1)) 0 0) (by
    intro k ⟨s, r, v⟩ hk ⟨a1, a2, a3, a4, a5⟩
    have a1 : Fm noP j7 τ (xa τ, s) := a1
    have a2 : xi (xa τ, s) 0 7 = nI v := a2
    have a3 : v ≤ 60 := a3
    have a4 : u = p → v = rfar g T n (8 * x + a) k p := a4
    have a5 : ∀ i, tb r i = true ↔ Run g T n (8 * x + a) k p i := a5
    have hI' : IM T n (xa τ, s) := hI.fm a1 (by decide) (fun q => q)
    have hg' : GM g (xa τ, s) := hg.fm a1 (by decide) ⟨fun q => q, fun q => q, fun q => q⟩
    have hy := hw.y (8 * x + a) k
    have ek : xi (xa τ, s) 3 (8 * (8 * x + a) + k) = sI (gY g (8 * x + a) k) := hg'.2.2.2 _ (by omega)
    obtain ⟨s', r', v', ⟨b1, b2, b3, b4, b5⟩, t⟩ := m_step G (g := g) (τ := (xa τ, s)) (z := gY g (8 * x + a) k) hT hI' hy.1 hy.2 (Run g T n (8 * x + a) k p) a5 (fun i w => (Run_bd hp w).2.1) a2 a3 (fun hz m hr => ⟨(hok k hk m hr hz).1, (hok k hk m hr hz).2.fm a1 ⟨fun q => q, fun q => q⟩⟩)
    refine ⟨(s', r', v'), ⟨a1.trans b1, b2, b3, fun e1 => ?_, b5⟩, fun q X kk => ?_⟩
    · show v' = _
      have a4 := a4 e1
      subst a4
      have hm := mx_in (S := rowT g T n (8 * x + a) k p) hp rowT_self
      have : isMx (rowT g T n (8 * x + a) (k + 1) p) v' := by
        refine ⟨?_, ?_⟩
        · rw [rowT_s]
          rcases b4.1 with q | q | ⟨q1, i, q2, q3⟩ | ⟨q1, i, q2, q3⟩
          · exact .inl (by rw [q]; exact hm.1)
          · exact .inl ⟨k, Nat.le_refl _, .inl q⟩
          · exact .inr (.inl ⟨i, q2, .inl ⟨q1, q3⟩⟩)
          · exact .inr (.inr ⟨q1, i, q2, q3⟩)
        · intro m hm'
          rw [rowT_s] at hm'
          rcases hm' with q | ⟨i, q2, q3⟩ | ⟨q1, i, q2, q3⟩
          · have e1 := (mx_in (S := rowT g T n (8 * x + a) k p) (rowT_bd hp q).2 q).2
            have e2 := b4.2 _ (.inl rfl)
            unfold rfar at e2
            omega
          · rcases q3 with q3 | q3
            · exact b4.2 m (.inr (.inr (.inl ⟨q3.1, i, q2, q3.2⟩)))
            · exact b4.2 m (.inr (.inr (.inr ⟨q3.1, i, q2, Tc_of_En q3.2⟩)))
          · exact b4.2 m (.inr (.inr (.inr ⟨q1, i, q2, q3⟩)))
      exact (this.mx (rowT_bd hp this.1).2).symm
    · refine sg_M_alongAlternative_6_f6 X (xa τ, s) _ _ _ _ _ (8 * x + a) (8 * (8 * x + a) + k) r' s' (m8 x a) (by omega) (by rw [hg'.2.2.1 _ (by omega), n_le (by omega) (by omega)]; omega) (m64 x a k) (by omega) (by rw [ek]; exact t) ?_
      rw [n_s]; exact kk) 0 (τ.2, shlL 1 (nI p), u) (Nat.zero_le _) ⟨Fm.refl _ _ _, hu, hu6, fun e1 => by
        show u = _
        rw [e1]; exact (mx_eq hp rowT_self (fun m _ w => by have := rowT_0.mp w; omega)).symm, fun i => by
        show tb (shlL 1 (nI p)) i = true ↔ _
        rw [tb_shlL (by omega), decide_eq_true_eq]; exact Iff.rfl⟩
  have a1 : Fm noP j7 τ (xa τ, s) := a1
  have hg' : GM g (xa τ, s) := hg.fm a1 (by decide) ⟨fun q => q, fun q => q, fun q => q⟩
  refine ⟨s, r, v, ⟨a1, a2, a3, a4, a5⟩, ?_⟩
  refine Ct.of (by decide +kernel) (Nat.le_of_ble_eq_true rfl) (fun K X => ?_)
  refine sg_M_alongAlternative_0_6 X τ _ _ _ (k1 (K, _, _) X ?_)
  exact sg_M_alongAlternative_6_tr X (xa τ, s) _ _ _ _ _ (8 * x + a) (m8 x a) (by omega) (by rw [hg'.2.2.1 _ (by omega), n_le (by omega) (by omega)]; omega) ⟨rfl, rfl⟩
