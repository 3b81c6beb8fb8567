/-! the reference's makeOrder -/
theorem cnt_set {f f' : Nat → Bool} {i n : Nat} (hi : i < n) (h1 : f i = false) (h2 : f' i = true) (h : ∀ j, j ≠ i → f' j = f j) : cnt f' n = cnt f n + 1 := by
  induction n with
  | zero => omega
  | succ n ih =>
    simp only [cnt]
    by_cases e : i = n
    · subst e
      have : cnt f' i = cnt f i := by
        have : ∀ m, m ≤ i → cnt f' m = cnt f m := by
          intro m
          induction m with
          | zero => intro _; rfl
          | succ m ihm => intro hm; simp only [cnt]; rw [ihm (by omega), h m (by omega)]
        exact this i (Nat.le_refl _)
      rw [this, h1, h2]; rfl
    · rw [ih (by omega), h n (fun q => e q.symm)]; omega
theorem cnt_all {f : Nat → Bool} {n : Nat} (h : ∀ i, i < n → f i = true) : cnt f n = n := by
  induction n with
  | zero => rfl
  | succ n ih => simp only [cnt]; rw [ih (fun i hi => h i (by omega)), h n (by omega)]; rfl
def OrdM (g : Gr) (m : Nat) (dn : Int64) (f : Nat → Int32) (o : Nat → Nat) : Prop :=
  (∀ k, k < m → f k = nI (o k) ∧ o k < gR g) ∧ (∀ i, tb dn i = true ↔ ∃ k, k < m ∧ o k = i) ∧ m = cnt (fun i => tb dn i) (gR g) ∧ ∀ k, k < m → ∀ y, Lf g (o k) y → ∃ j, j < k ∧ o j = y
theorem OrdM.add {g : Gr} {m : Nat} {dn dn' : Int64} {f f' : Nat → Int32} {o : Nat → Nat} (h : OrdM g m dn f o) {y : Nat} (hy : y < gR g) (hd : ¬ tb dn y = true) (hl : ∀ i, Lf g y i → tb dn i = true)
    (h1 : ∀ i, tb dn' i = true ↔ (tb dn i = true ∨ i = y)) (h2 : f' m = nI y) (h3 : ∀ k, k < m → f' k = f k) : OrdM g (m + 1) dn' f' (fun k => if k = m then y else o k) := by
  obtain ⟨a1, a2, a3, a4⟩ := h
  have eo : ∀ k, k < m → (if k = m then y else o k) = o k := fun k hk => if_neg (by omega)
  refine ⟨fun k hk => ?_, fun i => ?_, ?_, fun k hk z hz => ?_⟩
  · by_cases e : k = m
    · subst e; simp only [if_true]; exact ⟨h2, hy⟩
    · simp only [if_neg e]; rw [h3 k (by omega)]; exact a1 k (by omega)
  · rw [h1, a2]
    constructor
    · rintro (⟨k, q1, q2⟩ | q)
      · exact ⟨k, by omega, (eo k q1).trans q2⟩
      · exact ⟨m, by omega, (if_pos rfl).trans q.symm⟩
    · rintro ⟨k, q1, q2⟩
      have q2 : (if k = m then y else o k) = i := q2
      by_cases e : k = m
      · rw [if_pos e] at q2; exact .inr q2.symm
      · rw [if_neg e] at q2; exact .inl ⟨k, by omega, q2⟩
  · rw [cnt_set (f := fun i => tb dn i) (f' := fun i => tb dn' i) hy (by simpa using hd) ((h1 y).mpr (.inr rfl)) (fun j hj => by
      have := h1 j
      cases q : tb dn j
      · cases q2 : tb dn' j
        · rfl
        · rcases this.mp q2 with w | w
          · rw [q] at w; cases w
          · exact absurd w hj
      · exact this.mpr (.inl q)), ← a3]
  · by_cases e : k = m
    · have hz : Lf g y z := by simpa [e] using hz
      obtain ⟨j, q1, q2⟩ := (a2 z).mp (hl z hz)
      exact ⟨j, by omega, by show (if j = m then y else o j) = z; rw [eo j q1]; exact q2⟩
    · have hz : Lf g (o k) z := by simpa [e] using hz
      obtain ⟨j, q1, q2⟩ := a4 k (by omega) z hz
      exact ⟨j, q1, by show (if j = m then y else o j) = z; rw [eo j (by omega)]; exact q2⟩
abbrev p6 (k : Nat) : Prop := k = 6
theorem m_ready (G : GG) {g : Gr} {σ : St} (hw : WF g) (hg : GM g σ) (h2 : NoF (F2 g) (gR g)) (hL : ∀ y i, y < gR g → i < gR g → (¬ xi σ 5 (16 * y + i) = 0 ↔ Lf g y i)) (m : Int32) (dn : Int64) {y : Nat} (hy : y < gR g) :
    ∃ b, b = pI (¬ tb dn y = true ∧ ∀ i, Lf g y i → tb dn i = true) ∧ ∀ q, (fun q : KP => Bd q.1 G q.2.1 "FirstTreesModel" c_M_makeOrder 7 none rm_M_makeOrder) q → Lb q.1 G q.2.1 (Qe q.1 G q.2.1 q.2.2 rm_M_makeOrder) 7 45 [(0, .ref (xa σ 0)), (1, .int m), (2, .long dn), (4, .int (nI y)), (5, .int b), (6, .int (nI (gR g)))] [] (WM G σ) 0 0 →
      Lb q.1 G q.2.1 (Qe q.1 G q.2.1 q.2.2 rm_M_makeOrder) 7 15 [(0, .ref (xa σ 0)), (1, .int m), (2, .long dn), (4, .int (nI y))] [] (WM G σ) 0 0 := by
  have h16 := hw.r
  have c21 : ¬ xi σ 0 1 ≤ nI y := by rw [hg.1, n_le (by omega) (by omega)]; omega
  have start : ∀ b, b = pI (¬ tb dn y = true) → ∃ b', b' = pI (¬ tb dn y = true ∧ ∀ i, Lf g y i → tb dn i = true) ∧ ∀ q, (fun q : KP => Bd q.1 G q.2.1 "FirstTreesModel" c_M_makeOrder 7 none rm_M_makeOrder) q → Lb q.1 G q.2.1 (Qe q.1 G q.2.1 q.2.2 rm_M_makeOrder) 7 45 [(0, .ref (xa σ 0)), (1, .int m), (2, .long dn), (4, .int (nI y)), (5, .int b'), (6, .int (nI (gR g)))] [] (WM G σ) 0 0 →
      Lb q.1 G q.2.1 (Qe q.1 G q.2.1 q.2.2 rm_M_makeOrder) 7 45 [(0, .ref (xa σ 0)), (1, .int m), (2, .long dn), (4, .int (nI y)), (5, .int b), (6, .int (nI 0))] [] (WM G σ) 0 0 := by
    intro b hb
    obtain ⟨b', e1, k1⟩ := iterL (α := Int32) (C := fun q : KP => Bd q.1 G q.2.1 "FirstTreesModel" c_M_makeOrder 7 none rm_M_makeOrder) (gR g) (fun x b => b = pI (¬ tb dn y = true ∧ ∀ i, i < x → Lf g y i → tb dn i = true))
      (fun q x b => Lb q.1 G q.2.1 (Qe q.1 G q.2.1 q.2.2 rm_M_makeOrder) 7 45 [(0, .ref (xa σ 0)), (1, .int m), (2, .long dn), (4, .int (nI y)), (5, .int b), (6, .int (nI x))] [] (WM G σ) 0 0) (by
      intro x b hx hb
      have c51 : ¬ xi σ 0 1 ≤ nI x := by rw [hg.1, n_le (by omega) (by omega)]; omega
      by_cases c : ¬ tb dn y = true ∧ ∀ i, i < x → Lf g y i → tb dn i = true
      · rw [pI_t c] at hb
        subst hb
        by_cases d : Lf g y x
        · by_cases e : tb dn x = true
          · have hh : ¬ tb dn y = true ∧ ∀ i, i < x + 1 → Lf g y i → tb dn i = true := by
              refine ⟨c.1, fun i hi hl => ?_⟩
              by_cases ei : i = x
              · rw [ei]; exact e
              · exact c.2 i (by omega) hl
            refine ⟨1, (pI_t hh).symm, fun q X kk => ?_⟩
            · refine sg_M_makeOrder_45_ffff45 X σ _ _ _ _ _ (16 * y + x) c51 i1n0 (m16 y x) (by omega) ((hL y x hy hx).mpr d) ((shr1 (by omega)).mpr e) ?_
              rw [n_s]; exact kk
          · refine ⟨0, (pI_f (fun w => e (w.2 x (by omega) d))).symm, fun q X kk => ?_⟩
            refine sg_M_makeOrder_45_ffft45 X σ _ _ _ _ _ (16 * y + x) c51 i1n0 (m16 y x) (by omega) ((hL y x hy hx).mpr d) (by rw [shr1 (by omega)]; exact e) ?_
            rw [n_s]; exact kk
        · have hh : ¬ tb dn y = true ∧ ∀ i, i < x + 1 → Lf g y i → tb dn i = true := by
            refine ⟨c.1, fun i hi hl => ?_⟩
            by_cases ei : i = x
            · subst ei; exact absurd hl d
            · exact c.2 i (by omega) hl
          refine ⟨1, (pI_t hh).symm, fun q X kk => ?_⟩
          · refine sg_M_makeOrder_45_fft45 X σ _ _ _ _ _ (16 * y + x) c51 i1n0 (m16 y x) (by omega) (Classical.byContradiction (fun w => d ((hL y x hy hx).mp w))) ?_
            rw [n_s]; exact kk
      · rw [pI_f c] at hb
        subst hb
        refine ⟨0, (pI_f (fun w => c ⟨w.1, fun i hi => w.2 i (by omega)⟩)).symm, fun q X kk => ?_⟩
        refine sg_M_makeOrder_45_ft45 X σ _ _ _ _ _ c51 rfl ?_
        rw [n_s]; exact kk) 0 b (Nat.zero_le _) (by
        show b = _
        rw [hb]; congr 1; apply propext
        exact ⟨fun w => ⟨w, fun i hi => absurd hi (Nat.not_lt_zero _)⟩, fun w => w.1⟩)
    refine ⟨b', ?_, k1⟩
    have e1 : b' = pI (¬ tb dn y = true ∧ ∀ i, i < gR g → Lf g y i → tb dn i = true) := e1
    rw [e1]; congr 1; apply propext
    exact ⟨fun w => ⟨w.1, fun i hl => w.2 i (Lf_lt h2 hy hl) hl⟩, fun w => ⟨w.1, fun i _ => w.2 i⟩⟩
  by_cases c : tb dn y = true
  · obtain ⟨b', e1, k1⟩ := start 0 (pI_f (fun w => w c)).symm
    exact ⟨b', e1, fun q X kk => sg_M_makeOrder_15_ft45 X σ _ _ _ c21 (by rw [shr0 (by omega)]; exact fun w => w c) (k1 q X kk)⟩
  · obtain ⟨b', e1, k1⟩ := start 1 (pI_t c).symm
    exact ⟨b', e1, fun q X kk => sg_M_makeOrder_15_ff45 X σ _ _ _ c21 (by rw [shr0 (by omega)]; exact c) (k1 q X kk)⟩
theorem m_makeOrder (G : GG) {g : Gr} {τ : St} (hw : WF g) (hg : GM g τ) (h2 : NoF (F2 g) (gR g)) (h4 : NoF (F4 g) (gR g)) (hL : ∀ y i, y < gR g → i < gR g → (¬ xi τ 5 (16 * y + i) = 0 ↔ Lf g y i)) :
    ∃ (s : Sq) (o : Nat → Nat), (Topo g o ∧ (∀ k, k < gR g → xi (xa τ, s) 6 k = nI (o k)) ∧ Fm p6 noP τ (xa τ, s)) ∧ Ct y_M_makeOrder c_M_makeOrder 7 none rm_M_makeOrder G [.ref (xa τ 0)] (WM G τ) (eqp none (WM G (xa τ, s))) := by
  have h16 := hw.r
  obtain ⟨⟨s, dn, m, o⟩, ⟨a1, a2⟩, a3, k1⟩ := iterW (α := Sq × Int64 × Nat × (Nat → Nat)) (C := fun q : KP => Bd q.1 G q.2.1 "FirstTreesModel" c_M_makeOrder 7 none rm_M_makeOrder) (fun b => Fm p6 noP τ (xa τ, b.1) ∧ OrdM g b.2.2.1 b.2.1 (xi (xa τ, b.1) 6) b.2.2.2)
    (fun q b => Lb q.1 G q.2.1 (Qe q.1 G q.2.1 q.2.2 rm_M_makeOrder) 7 4 [(0, .ref (xa τ 0)), (1, .int (nI b.2.2.1)), (2, .long b.2.1)] [] (WM G (xa τ, b.1)) 0 0) (fun b => gR g ≤ b.2.2.1) (fun b => gR g - b.2.2.1) (by
    intro ⟨s, dn, m, o⟩ ⟨a1, a2⟩ a3
    have a1 : Fm p6 noP τ (xa τ, s) := a1
    have a2 : OrdM g m dn (xi (xa τ, s) 6) o := a2
    have a3 : ¬ gR g ≤ m := a3
    have hg0 : GM g (xa τ, s) := hg.fm a1 (fun q => q) (by decide)
    obtain ⟨⟨s', dn', m', o'⟩, ⟨b1, b2, b3, b4⟩, kk1⟩ := iterL (α := Sq × Int64 × Nat × (Nat → Nat)) (C := fun q : KP => Bd q.1 G q.2.1 "FirstTreesModel" c_M_makeOrder 7 none rm_M_makeOrder) (gR g)
      (fun y b => Fm p6 noP τ (xa τ, b.1) ∧ OrdM g b.2.2.1 b.2.1 (xi (xa τ, b.1) 6) b.2.2.2 ∧ (∀ i, tb dn i = true → tb b.2.1 i = true) ∧ (∀ x, x < y → (∀ i, Lf g x i → tb dn i = true) → tb b.2.1 x = true))
      (fun q y b => Lb q.1 G q.2.1 (Qe q.1 G q.2.1 q.2.2 rm_M_makeOrder) 7 15 [(0, .ref (xa τ 0)), (1, .int (nI b.2.2.1)), (2, .long b.2.1), (4, .int (nI y))] [] (WM G (xa τ, b.1)) 0 0) (by
      intro y ⟨s, dn1, m, o⟩ hy ⟨b1, b2, b3, b4⟩
      have b1 : Fm p6 noP τ (xa τ, s) := b1
      have b2 : OrdM g m dn1 (xi (xa τ, s) 6) o := b2
      have b3 : ∀ i, tb dn i = true → tb dn1 i = true := b3
      have b4 : ∀ x, x < y → (∀ i, Lf g x i → tb dn i = true) → tb dn1 x = true := b4
      have hg' : GM g (xa τ, s) := hg.fm b1 (fun q => q) (by decide)
      have hL' : ∀ y i, y < gR g → i < gR g → (¬ xi (xa τ, s) 5 (16 * y + i) = 0 ↔ Lf g y i) := by rw [b1.ei 5 (by decide)]; exact hL
      have hcl := cnt_le (fun i => tb dn1 i) (gR g)
      obtain ⟨b, e1, k2⟩ := m_ready G (σ := (xa τ, s)) hw hg' h2 hL' (nI m) dn1 hy
      have c51 : xi (xa τ, s) 0 1 ≤ nI (gR g) := by rw [hg'.1, n_le (by omega) (by omega)]; omega
      by_cases c : ¬ tb dn1 y = true ∧ ∀ i, Lf g y i → tb dn1 i = true
      · rw [pI_t c] at e1
        subst e1
        have hm : m < gR g := by
          have e0 := b2.2.2.1
          have : ¬ gR g ≤ m := fun w => c.1 (cnt_full (f := fun i => tb dn1 i) (by omega) y hy)
          omega
        have hbit : ∀ i, tb (dn1 ||| shlL 1 (nI y)) i = true ↔ (tb dn1 i = true ∨ i = y) := by
          intro i; rw [tb_or, Bool.or_eq_true, tb_shlL (by omega), decide_eq_true_eq]
        refine ⟨((wi (xa τ, s) 6 m (nI y)).2, dn1 ||| shlL 1 (nI y), m + 1, fun k => if k = m then y else o k), ⟨b1.i rfl (by decide) _ _, ?_, fun i hi => (hbit i).mpr (.inl (b3 i hi)), fun x hx hl => ?_⟩, fun q X kk => ?_⟩
        · exact b2.add hy c.1 c.2 hbit (upd_at _ _ _) (fun k hk => upd_ne _ _ (by omega))
        · show tb (dn1 ||| shlL 1 (nI y)) x = true
          rw [hbit]
          by_cases ex : x = y
          · exact .inr ex
          · exact .inl (b4 x (by omega) hl)
        · refine k2 q X (sg_M_makeOrder_45_tf15 X (xa τ, s) _ _ _ _ _ m c51 i1n0 rfl (by omega) ?_)
          rw [n_s, n_s]; exact kk
      · rw [pI_f c] at e1
        subst e1
        refine ⟨(s, dn1, m, o), ⟨b1, b2, b3, fun x hx hl => ?_⟩, fun q X kk => ?_⟩
        · by_cases ex : x = y
          · subst ex
            exact Classical.byContradiction (fun w => c ⟨w, fun i hi => b3 i (hl i hi)⟩)
          · exact b4 x (by omega) hl
        · refine k2 q X (sg_M_makeOrder_45_tt15 X (xa τ, s) _ _ _ _ _ c51 rfl ?_)
          rw [n_s]; exact kk) 0 (s, dn, m, o) (Nat.zero_le _) ⟨a1, a2, fun _ h => h, fun x hx => absurd hx (Nat.not_lt_zero _)⟩
    have b1 : Fm p6 noP τ (xa τ, s') := b1
    have b2 : OrdM g m' dn' (xi (xa τ, s') 6) o' := b2
    have b3 : ∀ i, tb dn i = true → tb dn' i = true := b3
    have b4 : ∀ x, x < gR g → (∀ i, Lf g x i → tb dn i = true) → tb dn' x = true := b4
    have hg' : GM g (xa τ, s') := hg.fm b1 (fun q => q) (by decide)
    refine ⟨(s', dn', m', o'), ⟨b1, b2⟩, ?_, fun q X kk => ?_⟩
    · show gR g - m' < gR g - m
      have e0 := a2.2.2.1
      have e1 := b2.2.2.1
      have hex : ∃ x, x < gR g ∧ ¬ tb dn x = true := Classical.byContradiction (fun w => a3 (by
        have := cnt_all (f := fun i => tb dn i) (n := gR g) (fun i hi => Classical.byContradiction (fun w2 => w ⟨i, hi, w2⟩))
        omega))
      obtain ⟨x, hx, hx1, hx2⟩ := minRk (g := g) (fun x => ¬ tb dn x = true) hex
      have hin := b4 x hx (fun i hi => Classical.byContradiction (fun w => hx2 i (Lf_lt h2 hx hi) (rk_lt h2 h4 hx hi) w))
      have := cnt_lt (f := fun i => tb dn i) (f' := fun i => tb dn' i) b3 hx (by simpa using hx1) hin
      omega
    · refine sg_M_makeOrder_4_f15 X (xa τ, s) _ _ (by rw [hg0.1, n_le (by omega) (by omega)]; omega) (kk1 q X ?_)
      exact sg_M_makeOrder_15_t4 X (xa τ, s') _ _ _ (by rw [hg'.1, n_le (by omega) (by omega)]; omega) kk) (τ.2, 0, 0, fun _ => 0) ⟨Fm.refl _ _ _, fun k hk => absurd hk (Nat.not_lt_zero _), fun i => by
        show tb 0 i = true ↔ _
        rw [tb_0]; exact ⟨fun q => (by cases q), fun ⟨k, hk, _⟩ => absurd hk (Nat.not_lt_zero _)⟩, by
        show 0 = cnt (fun i => tb 0 i) (gR g)
        have : ∀ n, cnt (fun i => tb 0 i) n = 0 := by
          intro n
          induction n with
          | zero => rfl
          | succ n ih => show cnt (fun i => tb 0 i) n + (if tb 0 n = true then 1 else 0) = 0; rw [ih, if_neg (by rw [tb_0]; decide)]
        rw [this], fun k hk => absurd hk (Nat.not_lt_zero _)⟩
  have a1 : Fm p6 noP τ (xa τ, s) := a1
  have a2 : OrdM g m dn (xi (xa τ, s) 6) o := a2
  have a3 : gR g ≤ m := a3
  have hm : m = gR g := by have := a2.2.2.1; have := cnt_le (fun i => tb dn i) (gR g); omega
  subst hm
  have hg' : GM g (xa τ, s) := hg.fm a1 (fun q => q) (by decide)
  refine ⟨s, o, ⟨⟨fun k hk => (a2.1 k hk).2, fun x hx => ?_, a2.2.2.2⟩, fun k hk => (a2.1 k hk).1, a1⟩, ?_⟩
  · exact (a2.2.1 x).mp (cnt_full (f := fun i => tb dn i) (by have := a2.2.2.1; omega) x hx)
  · refine Ct.of (by decide +kernel) (Nat.le_of_ble_eq_true rfl) (fun K X => ?_)
    refine sg_M_makeOrder_0_4 X τ (k1 (K, _, _) X ?_)
    exact sg_M_makeOrder_4_tr X (xa τ, s) _ _ (by show xi (xa τ, s) 0 1 ≤ nI (gR g); rw [hg'.1, n_le (by omega) (by omega)]; omega) ⟨rfl, rfl⟩
