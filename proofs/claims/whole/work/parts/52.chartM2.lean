/-! the reference's findPlaces and findNexts -/
abbrev pFP (k : Nat) : Prop := k = 6 ∨ k = 8 ∨ k = 9
theorem m_findPlaces (G : GG) {g : Gr} {T : Nat → Int} {n : Nat} {τ : St} (hw : WF g) (hg : GM g τ) (h2 : NoF (F2 g) (gR g)) (h4 : NoF (F4 g) (gR g)) (hL : ∀ y i, y < gR g → i < gR g → (¬ xi τ 5 (16 * y + i) = 0 ↔ Lf g y i)) (hT : WT T n) (hI : IM T n τ) (hu : ∃ u, u ≤ 60 ∧ xi τ 0 7 = nI u) :
    ∃ (s : Sq) (o : Nat → Nat), (Topo g o ∧ (∀ k, k < gR g → xi (xa τ, s) 6 k = nI (o k)) ∧ (∀ y, y < gR g → ∀ q, q ≤ n → okM g T n (xa τ, s) y q) ∧ (∃ u, u ≤ 60 ∧ xi (xa τ, s) 0 7 = nI u) ∧ Fm pFP j7 τ (xa τ, s)) ∧
      Ct y_M_findPlaces c_M_findPlaces 8 none rm_M_findPlaces G [.ref (xa τ 0)] (WM G τ) (eqp none (WM G (xa τ, s))) := by
  have h16 := hw.r
  have h60 := hT.1
  obtain ⟨s0, o, ⟨ho, hO, p0⟩, t0⟩ := m_makeOrder G hw hg h2 h4 hL
  have f0 : Fm pFP j7 τ (xa τ, s0) := p0.mono (fun k hk => .inl hk) (fun k hk => hk.elim)
  have hO' : ∀ s : Sq, Fm pFP j7 τ (xa τ, s) → xi (xa τ, s) 6 = xi (xa τ, s0) 6 → ∀ k, k < gR g → xi (xa τ, s) 6 k = nI (o k) := fun s _ e k hk => by rw [e]; exact hO k hk
  obtain ⟨s, ⟨h0, h1, hv, h3⟩, k1⟩ := iterD (α := Sq) (C := fun q : KP => Bd q.1 G q.2.1 "FirstTreesModel" c_M_findPlaces 8 none rm_M_findPlaces) (fun i s => Fm pFP j7 τ (xa τ, s) ∧ xi (xa τ, s) 6 = xi (xa τ, s0) 6 ∧ (∃ u, u ≤ 60 ∧ xi (xa τ, s) 0 7 = nI u) ∧ ∀ y, y < gR g → ∀ q, i ≤ q → q ≤ n → okM g T n (xa τ, s) y q)
    (fun q i s => Lb q.1 G q.2.1 (Qe q.1 G q.2.1 q.2.2 rm_M_findPlaces) 8 9 [(0, .ref (xa τ 0)), (1, .int (dI i))] [] (WM G (xa τ, s)) 0 0) (n + 1) (by
    intro p s hp ⟨h0, h1, hv, h3⟩
    obtain ⟨s', ⟨i0, i1, iv, i3⟩, k2⟩ := iterL (α := Sq) (C := fun q : KP => Bd q.1 G q.2.1 "FirstTreesModel" c_M_findPlaces 8 none rm_M_findPlaces) (gR g) (fun j s => Fm pFP j7 τ (xa τ, s) ∧ xi (xa τ, s) 6 = xi (xa τ, s0) 6 ∧ (∃ u, u ≤ 60 ∧ xi (xa τ, s) 0 7 = nI u) ∧ ∀ y q, Ok g n o p j y q → okM g T n (xa τ, s) y q)
      (fun q j s => Lb q.1 G q.2.1 (Qe q.1 G q.2.1 q.2.2 rm_M_findPlaces) 8 15 [(0, .ref (xa τ 0)), (1, .int (nI p)), (2, .int (nI j))] [] (WM G (xa τ, s)) 0 0) (by
      intro j s hj ⟨i0, i1, ⟨u0, hu0, iv⟩, i3⟩
      have hg' : GM g (xa τ, s) := hg.fm i0 (by decide) (by decide)
      have hI' : IM T n (xa τ, s) := hI.fm i0 (by decide) (by decide)
      have hx := ho.1 j hj
      have h8 := hw.a (o j)
      obtain ⟨⟨s', w, v⟩, ⟨a1, a2, a3, a4⟩, k3⟩ := iterL (α := Sq × Int64 × Nat) (C := fun q : KP => Bd q.1 G q.2.1 "FirstTreesModel" c_M_findPlaces 8 none rm_M_findPlaces) (gA g (o j))
        (fun a b => Fm noP j7 (xa τ, s) (xa τ, b.1) ∧ (∃ u, u ≤ 60 ∧ xi (xa τ, b.1) 0 7 = nI u) ∧ (∀ i, tb b.2.1 i = true ↔ ∃ c, c < a ∧ Run g T n (8 * o j + c) (gL g (8 * o j + c)) p i) ∧
          b.2.2 = mx (fun m => m = p ∨ ∃ c, c < a ∧ rowT g T n (8 * o j + c) (gL g (8 * o j + c)) p m) n)
        (fun q a b => Lb q.1 G q.2.1 (Qe q.1 G q.2.1 q.2.2 rm_M_findPlaces) 8 39 [(0, .ref (xa τ 0)), (1, .int (nI p)), (2, .int (nI j)), (3, .int (nI (o j))), (4, .long b.2.1), (6, .int (nI b.2.2)), (7, .int (nI a))] [] (WM G (xa τ, b.1)) 0 0) (by
        intro a ⟨s1, w, v⟩ ha ⟨a1, ⟨u, hu, a2⟩, a3, a4⟩
        have a1 : Fm noP j7 (xa τ, s) (xa τ, s1) := a1
        have a2 : xi (xa τ, s1) 0 7 = nI u := a2
        have a3 : ∀ i, tb w i = true ↔ ∃ c, c < a ∧ Run g T n (8 * o j + c) (gL g (8 * o j + c)) p i := a3
        have a4 : v = mx (fun m => m = p ∨ ∃ c, c < a ∧ rowT g T n (8 * o j + c) (gL g (8 * o j + c)) p m) n := a4
        have hg1 : GM g (wi (xa τ, s1) 0 7 (nI p)) := hg'.fm (a1.z rfl (nI p)) (by decide) ⟨fun q => q, fun q => q, fun q => q⟩
        have hI1 : IM T n (wi (xa τ, s1) 0 7 (nI p)) := hI'.fm (a1.z rfl (nI p)) (by decide) (fun q => q)
        have hgs : GM g (xa τ, s1) := hg'.fm a1 (by decide) ⟨fun q => q, fun q => q, fun q => q⟩
        obtain ⟨s2, r, v2, ⟨b1, b2, b3, b4, b5⟩, t⟩ := m_along G (τ := wi (xa τ, s1) 0 7 (nI p)) (x := o j) (a := a) (p := p) (u := p) hw hg1 hT hI1 (by omega) (by omega) (by omega) rfl (by omega)
          (fun k hk m hr hs => ⟨rl_lt h2 hx ha hk hs, (i3 _ _ (need_ok h2 ho hj rfl (by omega) ha hk hs hr)).fm (a1.z rfl (nI p)) ⟨fun q => q, fun q => q⟩⟩)
        have b4 := b4 rfl
        have b2 : xi (xa τ, s2) 0 7 = nI v2 := b2
        have c47 : ¬ xi (xa τ, s1) 1 (o j) ≤ nI a := by rw [hgs.2.1 _ (by omega), n_le (by omega) (by omega)]; omega
        have hv1 : v ≤ n := by rw [a4]; exact mx_le _ _
        have hv2 : v2 ≤ n := by rw [b4]; exact mx_le _ _
        have cs : ∀ (P : Nat → Prop), (∃ c, c < a + 1 ∧ P c) ↔ ((∃ c, c < a ∧ P c) ∨ P a) := by
          intro P
          constructor
          · rintro ⟨c, q1, q2⟩
            by_cases ec : c = a
            · subst ec; exact .inr q2
            · exact .inl ⟨c, by omega, q2⟩
          · rintro (⟨c, q1, q2⟩ | q)
            · exact ⟨c, by omega, q2⟩
            · exact ⟨a, by omega, q⟩
        have hbits : ∀ i, tb (w ||| r) i = true ↔ ∃ c, c < a + 1 ∧ Run g T n (8 * o j + c) (gL g (8 * o j + c)) p i := by
          intro i; rw [tb_or, Bool.or_eq_true, a3, b5, cs (fun c => Run g T n (8 * o j + c) (gL g (8 * o j + c)) p i)]
        have hmax : max v v2 = mx (fun m => m = p ∨ ∃ c, c < a + 1 ∧ rowT g T n (8 * o j + c) (gL g (8 * o j + c)) p m) n := by
          rw [a4, b4]
          unfold rfar
          rw [← mx_or (by omega) (.inl rfl) (by omega) rowT_self]
          refine mx_congr (fun m => ?_) n
          rw [cs (fun c => rowT g T n (8 * o j + c) (gL g (8 * o j + c)) p m), or_assoc]
        by_cases c : v2 ≤ v
        · refine ⟨(s2, w ||| r, v), ⟨(a1.z rfl (nI p)).trans b1, ⟨v2, b3, b2⟩, hbits, ?_⟩, fun q X kk => ?_⟩
          · show v = _
            rw [← hmax, Nat.max_eq_left c]
          · refine sg_M_findPlaces_39_ft39 X (xa τ, s1) _ _ _ _ _ _ (o j) r s2 rfl (by omega) c47 t (by rw [b2, n_le (by omega) (by omega)]; exact c) ?_
            rw [n_s]; exact kk
        · refine ⟨(s2, w ||| r, v2), ⟨(a1.z rfl (nI p)).trans b1, ⟨v2, b3, b2⟩, hbits, ?_⟩, fun q X kk => ?_⟩
          · show v2 = _
            rw [← hmax, Nat.max_eq_right (by omega)]
          · refine sg_M_findPlaces_39_ff39 X (xa τ, s1) _ _ _ _ _ _ (o j) r s2 rfl (by omega) c47 t (by rw [b2, n_le (by omega) (by omega)]; exact c) ?_
            rw [n_s, b2]; exact kk) 0 (s, 0, p) (Nat.zero_le _) ⟨Fm.refl _ _ _, ⟨u0, hu0, iv⟩, fun i => by
            show tb 0 i = true ↔ _
            rw [tb_0]; exact ⟨fun w => (by cases w), fun ⟨c, hc, _⟩ => absurd hc (Nat.not_lt_zero _)⟩, by
            show p = _
            exact (mx_eq (by omega) (.inl rfl) (fun m _ w => w.elim (fun w => Nat.le_of_eq w) (fun ⟨c, hc, _⟩ => absurd hc (Nat.not_lt_zero _)))).symm⟩
      have a1 : Fm noP j7 (xa τ, s) (xa τ, s') := a1
      have a3 : ∀ i, tb w i = true ↔ ∃ c, c < gA g (o j) ∧ Run g T n (8 * o j + c) (gL g (8 * o j + c)) p i := a3
      have a4 : v = mx (fun m => m = p ∨ ∃ c, c < gA g (o j) ∧ rowT g T n (8 * o j + c) (gL g (8 * o j + c)) p m) n := a4
      have hgs : GM g (xa τ, s') := hg'.fm a1 (by decide) ⟨fun q => q, fun q => q, fun q => q⟩
      refine ⟨(wi (wl (xa τ, s') 8 (61 * o j + p) w) 9 (61 * o j + p) (nI v)).2, ⟨?_, ?_, a2, ?_⟩, fun q X kk => ?_⟩
      · exact ((i0.trans (a1.mono (fun k hk => hk.elim) (fun k hk => hk))).l (by decide) (by decide) _ _).i (by decide) (by decide) _ _
      · show xi (xa τ, s') 6 = _
        rw [a1.ei 6 (by decide)]; exact i1
      · intro y q hq
        unfold okM
        show (∀ i, tb (vp_updL (xl (xa τ, s') 8) (61 * o j + p) w (61 * y + q)) i = true ↔ _) ∧ upd (xi (xa τ, s') 9) (61 * o j + p) (nI v) (61 * y + q) = _
        have hq2 := hq.2.1
        by_cases c : y = o j ∧ q = p
        · obtain ⟨rfl, rfl⟩ := c
          rw [updL_at, upd_at]
          refine ⟨fun i => by rw [a3, En_iff hx (by omega)], ?_⟩
          rw [a4]; congr 1
          exact mx_congr (fun m => by rw [Tc_iff hx (by omega)]) n
        · rw [updL_ne _ _ (fun w => c ⟨by omega, by omega⟩), upd_ne _ _ (fun w => c ⟨by omega, by omega⟩)]
          refine (i3 y q ⟨hq.1, hq.2.1, ?_⟩).fm a1 ⟨fun q => q, fun q => q⟩
          rcases hq.2.2 with w | ⟨w1, i, w2, w3⟩
          · exact .inl w
          · refine .inr ⟨w1, i, ?_, w3⟩
            by_cases ei : i = j
            · subst ei; exact absurd ⟨w3.symm, w1⟩ c
            · omega
      · refine sg_M_findPlaces_15_f39 X (xa τ, s) _ _ j (by rw [hg'.1, n_le (by omega) (by omega)]; omega) rfl (by omega) ?_
        rw [hO' s i0 i1 j hj]
        refine k3 q X ?_
        refine sg_M_findPlaces_39_t15 X (xa τ, s') _ _ _ _ _ _ (o j) (61 * o j + p) rfl (by omega) (by rw [hgs.2.1 _ (by omega), n_le (by omega) (by omega)]; omega) (m61' _ _) (by omega) ?_
        rw [n_s]; exact kk) 0 s (Nat.zero_le _) ⟨h0, h1, hv, fun y q hq => h3 y hq.1 q (by
          rcases hq.2.2 with w | ⟨_, i, w, _⟩
          · exact w
          · exact absurd w (Nat.not_lt_zero _)) hq.2.1⟩
    have hg' : GM g (xa τ, s') := hg.fm i0 (by decide) (by decide)
    refine ⟨s', ⟨i0, i1, iv, fun y hy q hq1 hq2 => i3 y q ⟨hy, hq2, ?_⟩⟩, fun q X kk => ?_⟩
    · by_cases c : q = p
      · obtain ⟨k, hk, e1⟩ := ho.2.1 y hy
        exact .inr ⟨c, k, hk, e1⟩
      · exact .inl (by omega)
    · show Lb _ _ _ _ _ _ [(0, .ref (xa τ 0)), (1, .int (dI (p + 1)))] _ _ _ _
      rw [dI_s]
      refine sg_M_findPlaces_9_f15 X (xa τ, s) _ (dI_nn (by omega)) (k2 q X ?_)
      refine sg_M_findPlaces_15_t9 X (xa τ, s') _ _ (by rw [hg'.1, n_le (by omega) (by omega)]; omega) ?_
      rw [dI_m]; exact kk) (n + 1) s0 (Nat.le_refl _) ⟨f0, rfl, by
        obtain ⟨u, h1, h2⟩ := hu
        exact ⟨u, h1, by rw [p0.2.1 7 (fun q => q)]; exact h2⟩, fun y hy q h1 h2 => by omega⟩
  refine ⟨s, o, ⟨ho, hO' s h0 h1, fun y hy q hq => h3 y hy q (Nat.zero_le _) hq, hv, h0⟩, ?_⟩
  have hI0 : IM T n (xa τ, s0) := hI.fm f0 (by decide) (by decide)
  refine Ct.of (by decide +kernel) (Nat.le_of_ble_eq_true rfl) (fun K X => ?_)
  refine sg_M_findPlaces_0_9 X τ s0 t0 ?_
  rw [hI0.1]
  have := k1 (K, _, eqp none (WM G (xa τ, s))) X (sg_M_findPlaces_9_tr X (xa τ, s) _ dI_0 ⟨rfl, rfl⟩)
  simp only [dI_s] at this
  exact this
/-- the reference's nexts of y from q, for the place e -/
def okN (g : Gr) (T : Nat → Int) (e : Nat) (τ : St) (y q : Nat) : Prop := ∀ t, tb (xl τ 10 (61 * y + q)) t = true ↔ Sn g T e y q t
theorem m_nextAlong (G : GG) {g : Gr} {T : Nat → Int} {n e : Nat} {τ : St} (hw : WF g) (hg : GM g τ) (hT : WT T n) (hI : IM T n τ) (hen : e ≤ n) {x a p u : Nat} (hx : x < 16) (ha : a < 8) (hp : p ≤ e) (hu : xi τ 0 7 = nI u) (hu6 : u ≤ 60)
    (hrl : ∀ k, k < gL g (8 * x + a) → gY g (8 * x + a) k < 0 → rl (gY g (8 * x + a) k) < gR g) (hok : ∀ y, y < gR g → ∀ q, q ≤ n → okM g T n τ y q)
    (hN : ∀ k, k < gL g (8 * x + a) → ∀ m, Run g T e (8 * x + a) k p m → gY g (8 * x + a) k < 0 → okN g T e τ (rl (gY g (8 * x + a) k)) m) :
    ∃ (s : Sq) (r : Int64) (v : Nat), (Fm noP j7 τ (xa τ, s) ∧ xi (xa τ, s) 0 7 = nI v ∧ v ≤ 60 ∧ (∀ t, tb r t = true ↔ rowS g T e (8 * x + a) (gL g (8 * x + a)) p t)) ∧
      Ct y_M_nextAlong c_M_nextAlong 12 (some .long) rm_M_nextAlong G [.ref (xa τ 0), .int (nI x), .int (nI a), .int (nI p), .int (nI e)] (WM G τ) (eqp (some (.long r)) (WM G (xa τ, s))) := by
  have h60 := hT.1
  have hl := hw.l (8 * x + a)
  have hpn : p ≤ n := by omega
  have hRe : ∀ k m, Run g T e (8 * x + a) k p m ↔ (Run g T n (8 * x + a) k p m ∧ m ≤ e) := fun k m =>
    ⟨fun w => (Run_cut hen).mp ⟨w, hp⟩, fun w => ((Run_cut hen).mpr w).1⟩
  obtain ⟨⟨s, r, w, v⟩, ⟨a1, a2, a3, a4, a5⟩, k1⟩ := iterL (α := Sq × Int64 × Int64 × Nat) (C := fun q : KP => Bd q.1 G q.2.1 "FirstTreesModel" c_M_nextAlong 12 (some .long) rm_M_nextAlong) (gL g (8 * x + a))
    (fun k b => Fm noP j7 τ (xa τ, b.1) ∧ xi (xa τ, b.1) 0 7 = nI b.2.2.2 ∧ b.2.2.2 ≤ 60 ∧ (∀ t, tb b.2.1 t = true ↔ rowS g T e (8 * x + a) k p t) ∧ (∀ i, tb b.2.2.1 i = true ↔ Run g T n (8 * x + a) k p i))
    (fun q k b => Lb q.1 G q.2.1 (Qe q.1 G q.2.1 q.2.2 rm_M_nextAlong) 12 11 [(0, .ref (xa τ 0)), (1, .int (nI x)), (2, .int (nI a)), (3, .int (nI p)), (4, .int (nI e)), (5, .long b.2.1), (7, .long b.2.2.1), (9, .int (nI k))] [] (WM G (xa τ, b.1)) 0 0) (by
    intro k ⟨s, r, w, v⟩ hk ⟨a1, a2, a3, a4, a5⟩
    have a1 : Fm noP j7 τ (xa τ, s) := a1
    have a2 : xi (xa τ, s) 0 7 = nI v := a2
    have a3 : v ≤ 60 := a3
    have a4 : ∀ t, tb r t = true ↔ rowS g T e (8 * x + a) k p t := a4
    have a5 : ∀ i, tb w i = true ↔ Run g T n (8 * x + a) k p i := a5
    have hI' : IM T n (xa τ, s) := hI.fm a1 (by decide) (fun q => q)
    have hg' : GM g (xa τ, s) := hg.fm a1 (by decide) ⟨fun q => q, fun q => q, fun q => q⟩
    have hy := hw.y (8 * x + a) k
    have ek : xi (xa τ, s) 3 (8 * (8 * x + a) + k) = sI (gY g (8 * x + a) k) := hg'.2.2.2 _ (by omega)
    obtain ⟨r1, b1, k2⟩ := iterL (α := Int64) (C := fun q : KP => Bd q.1 G q.2.1 "FirstTreesModel" c_M_nextAlong 12 (some .long) rm_M_nextAlong) (e + 1) (fun m r1 => p ≤ m ∧ ∀ t, tb r1 t = true ↔ (rowS g T e (8 * x + a) k p t ∨ ∃ q, q < m ∧ Run g T e (8 * x + a) k p q ∧ ((0 ≤ gY g (8 * x + a) k ∧ q = e ∧ gY g (8 * x + a) k = t) ∨ (gY g (8 * x + a) k < 0 ∧ Sn g T e (rl (gY g (8 * x + a) k)) q t))))
      (fun q m r1 => Lb q.1 G q.2.1 (Qe q.1 G q.2.1 q.2.2 rm_M_nextAlong) 12 35 [(0, .ref (xa τ 0)), (1, .int (nI x)), (2, .int (nI a)), (3, .int (nI p)), (4, .int (nI e)), (5, .long r1), (7, .long w), (9, .int (nI k)), (10, .int (sI (gY g (8 * x + a) k))), (11, .int (nI m))] [] (WM G (xa τ, s)) 0 0) (by
      intro m r1 hm ⟨hpm, hr1⟩
      have c39 : ¬ nI e < nI m := by rw [n_lt (by omega) (by omega)]; omega
      by_cases c : Run g T n (8 * x + a) k p m
      · have c50 : shrL w (nI m) &&& 1 = 1 := by rw [shr1 (by omega), a5]; exact c
        have c' : Run g T e (8 * x + a) k p m := (hRe k m).mpr ⟨c, by omega⟩
        by_cases d : gY g (8 * x + a) k < 0
        · have o := (hN k hk m c' d)
          have e10 : xl (xa τ, s) 10 = xl τ 10 := a1.el 10 (by decide)
          refine ⟨r1 ||| xl (xa τ, s) 10 (61 * rl (gY g (8 * x + a) k) + m), ⟨by omega, fun t => ?_⟩, fun q X kk => ?_⟩
          · rw [tb_or, Bool.or_eq_true, hr1, e10, o t]
            constructor
            · rintro ((q | ⟨q, q1, q2⟩) | q)
              · exact .inl q
              · exact .inr ⟨q, by omega, q2⟩
              · exact .inr ⟨m, by omega, c', .inr ⟨d, q⟩⟩
            · rintro (q | ⟨q, q1, q2, q3⟩)
              · exact .inl (.inl q)
              · by_cases ei : q = m
                · subst ei
                  rcases q3 with q3 | q3
                  · omega
                  · exact .inr q3.2
                · exact .inl (.inr ⟨q, by omega, q2, q3⟩)
          · have := hw.rl (8 * x + a) k
            refine sg_M_nextAlong_35_fff35 X (xa τ, s) _ _ _ _ _ _ _ _ _ (61 * rl (gY g (8 * x + a) k) + m) c39 c50 (by rw [isr_1 hy.1 hy.2 d]; decide) (by rw [rl_sI d, m61']) (by omega) ?_
            rw [n_s]; exact kk
        · have c61 : b2i (decide (sI (gY g (8 * x + a) k) < 0)) = 0 := isr_0 hy.1 hy.2 d
          by_cases f : m = e
          · refine ⟨r1 ||| shlL 1 (sI (gY g (8 * x + a) k)), ⟨by omega, fun t => ?_⟩, fun q X kk => ?_⟩
            · rw [tb_or, Bool.or_eq_true, hr1, nN (by omega), tb_shlL (by omega), decide_eq_true_eq]
              constructor
              · rintro ((q | ⟨q, q1, q2⟩) | q)
                · exact .inl q
                · exact .inr ⟨q, by omega, q2⟩
                · exact .inr ⟨m, by omega, c', .inl ⟨by omega, f, by omega⟩⟩
              · rintro (q | ⟨q, q1, q2, q3⟩)
                · exact .inl (.inl q)
                · by_cases ei : q = m
                  · subst ei
                    rcases q3 with q3 | q3
                    · exact .inr (by omega)
                    · exact absurd q3.1 d
                  · exact .inl (.inr ⟨q, by omega, q2, q3⟩)
            · refine sg_M_nextAlong_35_fftf35 X (xa τ, s) _ _ _ _ _ _ _ _ _ c39 c50 c61 (by rw [f]) ?_
              rw [n_s]; exact kk
          · refine ⟨r1 ||| 0, ⟨by omega, fun t => ?_⟩, fun q X kk => ?_⟩
            · rw [tb_or, Bool.or_eq_true, hr1, tb_0]
              constructor
              · rintro ((q | ⟨q, q1, q2⟩) | q)
                · exact .inl q
                · exact .inr ⟨q, by omega, q2⟩
                · cases q
              · rintro (q | ⟨q, q1, q2, q3⟩)
                · exact .inl (.inl q)
                · by_cases ei : q = m
                  · subst ei
                    rcases q3 with q3 | q3
                    · exact absurd q3.2.1 f
                    · exact absurd q3.1 d
                  · exact .inl (.inr ⟨q, by omega, q2, q3⟩)
            · refine sg_M_nextAlong_35_fftt35 X (xa τ, s) _ _ _ _ _ _ _ _ _ c39 c50 c61 (by rw [n_eq (by omega) (by omega)]; exact f) ?_
              rw [n_s]; exact kk
      · refine ⟨r1, ⟨by omega, fun t => ?_⟩, fun q X kk => ?_⟩
        · rw [hr1]
          constructor
          · rintro (q | ⟨q, q1, q2⟩)
            · exact .inl q
            · exact .inr ⟨q, by omega, q2⟩
          · rintro (q | ⟨q, q1, q2, q3⟩)
            · exact .inl q
            · by_cases ei : q = m
              · subst ei; exact absurd ((hRe k q).mp q2).1 c
              · exact .inr ⟨q, by omega, q2, q3⟩
        · refine sg_M_nextAlong_35_ft35 X (xa τ, s) _ _ _ _ _ _ _ _ _ c39 (by rw [shr1 (by omega), a5]; exact c) ?_
          rw [n_s]; exact kk) p r (by omega) ⟨Nat.le_refl _, fun t => by
          rw [a4]
          exact ⟨.inl, fun q => q.elim id (fun ⟨q, q1, q2, _⟩ => by have := (Run_bd hp q2).1; omega)⟩⟩
    obtain ⟨s', r', v', ⟨c1, c2, c3, c4, c5⟩, t⟩ := m_step G (g := g) (τ := (xa τ, s)) (z := gY g (8 * x + a) k) hT hI' hy.1 hy.2 (Run g T n (8 * x + a) k p) a5 (fun i w => (Run_bd hpn w).2.1) a2 a3
      (fun hz m hr => ⟨hrl k hk hz, (hok _ (hrl k hk hz) m (Run_bd hpn hr).2.1).fm a1 ⟨fun q => q, fun q => q⟩⟩)
    refine ⟨(s', r1, r', v'), ⟨a1.trans c1, c2, c3, fun t => ?_, c5⟩, fun q X kk => ?_⟩
    · show tb r1 t = true ↔ _
      rw [b1.2, rowS_s]
      constructor
      · rintro (q | ⟨q, q1, q2⟩)
        · exact .inl q
        · exact .inr ⟨q, q2⟩
      · rintro (q | ⟨q, q2, q3⟩)
        · exact .inl q
        · exact .inr ⟨q, by have := (Run_bd hp q2).2.1; omega, q2, q3⟩
    · refine sg_M_nextAlong_11_f35 X (xa τ, s) _ _ _ _ _ _ _ (8 * x + a) (8 * (8 * x + a) + k) (m8 x a) (by omega) (by rw [hg'.2.2.1 _ (by omega), n_le (by omega) (by omega)]; omega) (m64 x a k) (by omega) ?_
      rw [ek]
      refine k2 q X ?_
      refine sg_M_nextAlong_35_t11 X (xa τ, s) _ _ _ _ _ _ _ _ _ r' s' (by rw [n_lt (by omega) (by omega)]; omega) t ?_
      rw [n_s]; exact kk) 0 (τ.2, 0, shlL 1 (nI p), u) (Nat.zero_le _) ⟨Fm.refl _ _ _, hu, hu6, fun t => by
      show tb 0 t = true ↔ _
      rw [tb_0]; exact ⟨fun q => (by cases q), fun q => absurd q rowS_0⟩, fun i => by
      show tb (shlL 1 (nI p)) i = true ↔ _
      rw [tb_shlL (by omega), decide_eq_true_eq]; exact Iff.rfl⟩
  have a1 : Fm noP j7 τ (xa τ, s) := a1
  have hg' : GM g (xa τ, s) := hg.fm a1 (by decide) ⟨fun q => q, fun q => q, fun q => q⟩
  refine ⟨s, r, v, ⟨a1, a2, a3, a4⟩, ?_⟩
  refine Ct.of (by decide +kernel) (Nat.le_of_ble_eq_true rfl) (fun K X => ?_)
  refine sg_M_nextAlong_0_11 X τ _ _ _ _ (k1 (K, _, _) X ?_)
  exact sg_M_nextAlong_11_tr X (xa τ, s) _ _ _ _ _ _ _ (8 * x + a) (m8 x a) (by omega) (by rw [hg'.2.2.1 _ (by omega), n_le (by omega) (by omega)]; omega) ⟨rfl, rfl⟩
abbrev p10 (k : Nat) : Prop := k = 10
theorem m_findNexts (G : GG) {g : Gr} {T : Nat → Int} {n e : Nat} {τ : St} (hw : WF g) (hg : GM g τ) (h2 : NoF (F2 g) (gR g)) (hT : WT T n) (hI : IM T n τ) (hen : e ≤ n) (hu : ∃ u, u ≤ 60 ∧ xi τ 0 7 = nI u) {o : Nat → Nat} (ho : Topo g o) (hO : ∀ k, k < gR g → xi τ 6 k = nI (o k)) (hok : ∀ y, y < gR g → ∀ q, q ≤ n → okM g T n τ y q) :
    ∃ (s : Sq), ((∀ y, y < gR g → ∀ q, q ≤ e → okN g T e (xa τ, s) y q) ∧ (∃ u, u ≤ 60 ∧ xi (xa τ, s) 0 7 = nI u) ∧ Fm p10 j7 τ (xa τ, s)) ∧ Ct y_M_findNexts c_M_findNexts 8 none rm_M_findNexts G [.ref (xa τ 0), .int (nI e)] (WM G τ) (eqp none (WM G (xa τ, s))) := by
  have h16 := hw.r
  have h60 := hT.1
  obtain ⟨s, ⟨h0, hv, h3⟩, k1⟩ := iterD (α := Sq) (C := fun q : KP => Bd q.1 G q.2.1 "FirstTreesModel" c_M_findNexts 8 none rm_M_findNexts) (fun i s => Fm p10 j7 τ (xa τ, s) ∧ (∃ u, u ≤ 60 ∧ xi (xa τ, s) 0 7 = nI u) ∧ ∀ y, y < gR g → ∀ q, i ≤ q → q ≤ e → okN g T e (xa τ, s) y q)
    (fun q i s => Lb q.1 G q.2.1 (Qe q.1 G q.2.1 q.2.2 rm_M_findNexts) 8 2 [(0, .ref (xa τ 0)), (1, .int (nI e)), (2, .int (dI i))] [] (WM G (xa τ, s)) 0 0) (e + 1) (by
    intro p s hp ⟨h0, hv, h3⟩
    obtain ⟨s', ⟨i0, iv, i3⟩, k2⟩ := iterL (α := Sq) (C := fun q : KP => Bd q.1 G q.2.1 "FirstTreesModel" c_M_findNexts 8 none rm_M_findNexts) (gR g) (fun j s => Fm p10 j7 τ (xa τ, s) ∧ (∃ u, u ≤ 60 ∧ xi (xa τ, s) 0 7 = nI u) ∧ ∀ y q, Ok g e o p j y q → okN g T e (xa τ, s) y q)
      (fun q j s => Lb q.1 G q.2.1 (Qe q.1 G q.2.1 q.2.2 rm_M_findNexts) 8 8 [(0, .ref (xa τ 0)), (1, .int (nI e)), (2, .int (nI p)), (3, .int (nI j))] [] (WM G (xa τ, s)) 0 0) (by
      intro j s hj ⟨i0, ⟨u0, hu0, iv⟩, i3⟩
      have hg' : GM g (xa τ, s) := hg.fm i0 (by decide) (by decide)
      have hI' : IM T n (xa τ, s) := hI.fm i0 (by decide) (by decide)
      have hx := ho.1 j hj
      have h8 := hw.a (o j)
      obtain ⟨⟨s', w⟩, ⟨a1, a2, a3⟩, k3⟩ := iterL (α := Sq × Int64) (C := fun q : KP => Bd q.1 G q.2.1 "FirstTreesModel" c_M_findNexts 8 none rm_M_findNexts) (gA g (o j))
        (fun a b => Fm noP j7 (xa τ, s) (xa τ, b.1) ∧ (∃ u, u ≤ 60 ∧ xi (xa τ, b.1) 0 7 = nI u) ∧ (∀ t, tb b.2 t = true ↔ ∃ c, c < a ∧ rowS g T e (8 * o j + c) (gL g (8 * o j + c)) p t))
        (fun q a b => Lb q.1 G q.2.1 (Qe q.1 G q.2.1 q.2.2 rm_M_findNexts) 8 30 [(0, .ref (xa τ 0)), (1, .int (nI e)), (2, .int (nI p)), (3, .int (nI j)), (4, .int (nI (o j))), (5, .long b.2), (7, .int (nI a))] [] (WM G (xa τ, b.1)) 0 0) (by
        intro a ⟨s1, w⟩ ha ⟨a1, ⟨u, hu, a2⟩, a3⟩
        have a1 : Fm noP j7 (xa τ, s) (xa τ, s1) := a1
        have a2 : xi (xa τ, s1) 0 7 = nI u := a2
        have a3 : ∀ t, tb w t = true ↔ ∃ c, c < a ∧ rowS g T e (8 * o j + c) (gL g (8 * o j + c)) p t := a3
        have hg1 : GM g (xa τ, s1) := hg'.fm a1 (by decide) ⟨fun q => q, fun q => q, fun q => q⟩
        have hI1 : IM T n (xa τ, s1) := hI'.fm a1 (by decide) (fun q => q)
        obtain ⟨s2, r, v2, ⟨b1, b2, b3, b4⟩, t⟩ := m_nextAlong G (τ := (xa τ, s1)) (e := e) (x := o j) (a := a) (p := p) (u := u) hw hg1 hT hI1 hen (by omega) (by omega) (by omega) a2 hu (fun k hk hs => rl_lt h2 hx ha hk hs)
          (fun y hy q hq => ((hok y hy q hq).fm i0 (by decide)).fm a1 ⟨fun q => q, fun q => q⟩)
          (fun k hk m hr hs => by
            have := i3 _ _ (need_ok h2 ho hj rfl (by omega) ha hk hs hr)
            unfold okN; rw [a1.el 10 (by decide)]; exact this)
        refine ⟨(s2, w ||| r), ⟨a1.trans b1, ⟨v2, b3, b2⟩, fun t => ?_⟩, fun q X kk => ?_⟩
        · show tb (w ||| r) t = true ↔ _
          rw [tb_or, Bool.or_eq_true, a3, b4]
          constructor
          · rintro (⟨c, q1, q2⟩ | q)
            · exact ⟨c, by omega, q2⟩
            · exact ⟨a, by omega, q⟩
          · rintro ⟨c, q1, q2⟩
            by_cases ec : c = a
            · subst ec; exact .inr q2
            · exact .inl ⟨c, by omega, q2⟩
        · refine sg_M_findNexts_30_f30 X (xa τ, s1) _ _ _ _ _ _ (o j) r s2 rfl (by omega) (by rw [hg1.2.1 _ (by omega), n_le (by omega) (by omega)]; omega) t ?_
          rw [n_s]; exact kk) 0 (s, 0) (Nat.zero_le _) ⟨Fm.refl _ _ _, ⟨u0, hu0, iv⟩, fun t => by
            show tb 0 t = true ↔ _
            rw [tb_0]; exact ⟨fun w => (by cases w), fun ⟨c, hc, _⟩ => absurd hc (Nat.not_lt_zero _)⟩⟩
      have a1 : Fm noP j7 (xa τ, s) (xa τ, s') := a1
      have a3 : ∀ t, tb w t = true ↔ ∃ c, c < gA g (o j) ∧ rowS g T e (8 * o j + c) (gL g (8 * o j + c)) p t := a3
      have hgs : GM g (xa τ, s') := hg'.fm a1 (by decide) ⟨fun q => q, fun q => q, fun q => q⟩
      refine ⟨(wl (xa τ, s') 10 (61 * o j + p) w).2, ⟨?_, a2, ?_⟩, fun q X kk => ?_⟩
      · exact (i0.trans (a1.mono (fun k hk => hk.elim) (fun k hk => hk))).l (by decide) (by decide) _ _
      · intro y q hq t
        show tb (vp_updL (xl (xa τ, s') 10) (61 * o j + p) w (61 * y + q)) t = true ↔ _
        have hq2 := hq.2.1
        by_cases c : y = o j ∧ q = p
        · obtain ⟨rfl, rfl⟩ := c
          rw [updL_at, a3, Sn_iff hx (by omega)]
        · rw [updL_ne _ _ (fun w => c ⟨by omega, by omega⟩), a1.el 10 (by decide)]
          refine i3 y q ⟨hq.1, hq.2.1, ?_⟩ t
          rcases hq.2.2 with w | ⟨w1, i, w2, w3⟩
          · exact .inl w
          · refine .inr ⟨w1, i, ?_, w3⟩
            by_cases ei : i = j
            · subst ei; exact absurd ⟨w3.symm, w1⟩ c
            · omega
      · refine sg_M_findNexts_8_f30 X (xa τ, s) _ _ _ j (by rw [hg'.1, n_le (by omega) (by omega)]; omega) rfl (by omega) ?_
        rw [i0.ei 6 (by decide), hO j hj]
        refine k3 q X ?_
        refine sg_M_findNexts_30_t8 X (xa τ, s') _ _ _ _ _ _ (o j) (61 * o j + p) rfl (by omega) (by rw [hgs.2.1 _ (by omega), n_le (by omega) (by omega)]; omega) (m61' _ _) (by omega) ?_
        rw [n_s]; exact kk) 0 s (Nat.zero_le _) ⟨h0, hv, fun y q hq => h3 y hq.1 q (by
          rcases hq.2.2 with w | ⟨_, i, w, _⟩
          · exact w
          · exact absurd w (Nat.not_lt_zero _)) hq.2.1⟩
    have hg' : GM g (xa τ, s') := hg.fm i0 (by decide) (by decide)
    refine ⟨s', ⟨i0, iv, fun y hy q hq1 hq2 => i3 y q ⟨hy, hq2, ?_⟩⟩, fun q X kk => ?_⟩
    · by_cases c : q = p
      · obtain ⟨k, hk, e1⟩ := ho.2.1 y hy
        exact .inr ⟨c, k, hk, e1⟩
      · exact .inl (by omega)
    · show Lb _ _ _ _ _ _ [(0, .ref (xa τ 0)), (1, .int (nI e)), (2, .int (dI (p + 1)))] _ _ _ _
      rw [dI_s]
      refine sg_M_findNexts_2_f8 X (xa τ, s) _ _ (dI_nn (by omega)) (k2 q X ?_)
      refine sg_M_findNexts_8_t2 X (xa τ, s') _ _ _ (by rw [hg'.1, n_le (by omega) (by omega)]; omega) ?_
      rw [dI_m]; exact kk) (e + 1) τ.2 (Nat.le_refl _) ⟨Fm.refl _ _ _, hu, fun y hy q h1 h2 => by omega⟩
  refine ⟨s, ⟨fun y hy q hq => h3 y hy q (Nat.zero_le _) hq, hv, h0⟩, ?_⟩
  refine Ct.of (by decide +kernel) (Nat.le_of_ble_eq_true rfl) (fun K X => ?_)
  refine sg_M_findNexts_0_2 X τ _ ?_
  have := k1 (K, _, eqp none (WM G (xa τ, s))) X (sg_M_findNexts_2_tr X (xa τ, s) _ _ dI_0 ⟨rfl, rfl⟩)
  simp only [dI_s] at this
  exact this
