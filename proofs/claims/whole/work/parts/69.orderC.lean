/-! findOrder -/
def OrdC (g : Gr) (m : Nat) (dn : Nat → Bool) (f : Nat → Int32) (o : Nat → Nat) : Prop :=
  (∀ k, k < m → f k = nI (o k) ∧ o k < gR g) ∧ (∀ i, dn i = true ↔ ∃ k, k < m ∧ o k = i) ∧ m = cnt (fun i => dn i) (gR g) ∧ ∀ k, k < m → ∀ y, Lf g (o k) y → ∃ j, j < k ∧ o j = y
theorem OrdC.add {g : Gr} {m : Nat} {dn dn' : Nat → Bool} {f f' : Nat → Int32} {o : Nat → Nat} (h : OrdC g m dn f o) {y : Nat} (hy : y < gR g) (hd : ¬ dn y = true) (hl : ∀ i, Lf g y i → dn i = true)
    (h1 : ∀ i, dn' i = true ↔ (dn i = true ∨ i = y)) (h2 : f' m = nI y) (h3 : ∀ k, k < m → f' k = f k) : OrdC g (m + 1) dn' f' (fun k => if k = m then y else o k) := by
  obtain ⟨a1, a2, a3, a4⟩ := h
  have eo : ∀ k, k < m → (if k = m then y else o k) = o k := fun k hk => if_neg (by omega)
  refine ⟨fun k hk => ?_, fun i => ?_, ?_, fun k hk z hz => ?_⟩
  · by_cases e : k = m
    · subst e; simp only [if_true]; exact ⟨h2, hy⟩
    · simp only [if_neg e]; rw [h3 k (by omega)]; exact a1 k (by omega)
  · rw [h1, a2]
    constructor
    · rintro (⟨k, q1, q2⟩ | q)
      · exact ⟨k, by omega, (eo k q1).trans q2⟩
      · exact ⟨m, by omega, (if_pos rfl).trans q.symm⟩
    · rintro ⟨k, q1, q2⟩
      have q2 : (if k = m then y else o k) = i := q2
      by_cases e : k = m
      · rw [if_pos e] at q2; exact .inr q2.symm
      · rw [if_neg e] at q2; exact .inl ⟨k, by omega, q2⟩
  · rw [cnt_set (f := fun i => dn i) (f' := fun i => dn' i) hy (by simpa using hd) ((h1 y).mpr (.inr rfl)) (fun j hj => by
      have := h1 j
      cases q : dn j
      · cases q2 : dn' j
        · rfl
        · rcases this.mp q2 with w | w
          · rw [q] at w; cases w
          · exact absurd w hj
      · exact this.mpr (.inl q)), ← a3]
  · by_cases e : k = m
    · have hz : Lf g y z := by simpa [e] using hz
      obtain ⟨j, q1, q2⟩ := (a2 z).mp (hl z hz)
      exact ⟨j, by omega, by show (if j = m then y else o j) = z; rw [eo j q1]; exact q2⟩
    · have hz : Lf g (o k) z := by simpa [e] using hz
      obtain ⟨j, q1, q2⟩ := a4 k (by omega) z hz
      exact ⟨j, q1, by show (if j = m then y else o j) = z; rw [eo j (by omega)]; exact q2⟩

noncomputable def DD (g : Gr) (r x i : Nat) : Bool := pB (i < gR g ∧ (rk g i < r ∨ (rk g i = r ∧ i < x)))
theorem DD_iff {g : Gr} {r x i : Nat} : DD g r x i = true ↔ (i < gR g ∧ (rk g i < r ∨ (rk g i = r ∧ i < x))) := pB_t
theorem OrdC.eq {g : Gr} {m : Nat} {D D' : Nat → Bool} {f : Nat → Int32} {o : Nat → Nat} (h : OrdC g m D f o) (e : ∀ i, D' i = true ↔ D i = true) : OrdC g m D' f o := by
  have : D' = D := by
    funext i
    have := e i
    cases q1 : D' i <;> cases q2 : D i <;> simp_all
  rw [this]; exact h
theorem bc_rk {g : Gr} (hw : WF g) (h2 : NoF (F2 g) (gR g)) {x : Nat} (hx : x < gR g) {v : Int32} (h : ∀ i, tc v i = true ↔ Lf g x i) : bc v = nI (rk g x) := by
  have h16 := hw.r
  have hf : ∀ i, gR g ≤ i → tc v i = false := by
    intro i hi
    cases q : tc v i
    · rfl
    · have := Lf_lt h2 hx ((h i).mp q); omega
  rw [bc_cnt (fun i hi => hf i (by omega))]
  have e : ∀ n, gR g ≤ n → cnt (fun i => tc v i) n = rk g x := by
    intro n hn
    obtain ⟨d, rfl⟩ : ∃ d, n = gR g + d := ⟨n - gR g, by omega⟩
    clear hn
    induction d with
    | zero =>
      unfold rk
      congr 1
      funext i
      have := h i
      by_cases c : Lf g x i
      · rw [this.mpr c, pB_t.mpr c]
      · rw [pB_f.mpr c]
        cases q : tc v i
        · rfl
        · exact absurd (this.mp q) c
    | succ d ih =>
      show cnt (fun i => tc v i) (gR g + d) + (if tc v (gR g + d) then 1 else 0) = _
      rw [ih, hf _ (by omega)]; rfl
  rw [e 16 (by omega)]
theorem k_findOrder (G : GG) {g : Gr} {σ : St} (hw : WF g) (hg : GC g σ) (h2 : NoF (F2 g) (gR g)) (h4 : NoF (F4 g) (gR g)) (hL : ∀ x, x < gR g → ∀ i, tc (xi σ 6 x) i = true ↔ Lf g x i) :
    ∃ f o, (Topo g o ∧ ∀ k, k < gR g → f k = nI (o k)) ∧ Ct y_S_findOrder c_S_findOrder 4 none rm_S_findOrder G [.ref (xa σ 5)] (WC G σ) (eqp none (WC G (si σ 7 f))) := by
  have h16 := hw.r
  obtain ⟨⟨f, m, o⟩, a1, k1⟩ := iterL (α := (Nat → Int32) × Nat × (Nat → Nat)) (C := fun q : KP => Bd q.1 G q.2.1 "FirstTrees$Study" c_S_findOrder 4 none rm_S_findOrder) 16 (fun r b => OrdC g b.2.1 (DD g r 0) b.1 b.2.2)
    (fun q r b => Lb q.1 G q.2.1 (Qe q.1 G q.2.1 q.2.2 rm_S_findOrder) 4 4 [(0, .ref (xa σ 5)), (1, .int (nI b.2.1)), (2, .int (nI r))] [] (WC G (si σ 7 b.1)) 0 0) (by
    intro r ⟨f, m, o⟩ hr a1
    have a1 : OrdC g m (DD g r 0) f o := a1
    obtain ⟨⟨f2, m2, o2⟩, b1, k2⟩ := iterL (α := (Nat → Int32) × Nat × (Nat → Nat)) (C := fun q : KP => Bd q.1 G q.2.1 "FirstTrees$Study" c_S_findOrder 4 none rm_S_findOrder) (gR g) (fun x b => OrdC g b.2.1 (DD g r x) b.1 b.2.2)
      (fun q x b => Lb q.1 G q.2.1 (Qe q.1 G q.2.1 q.2.2 rm_S_findOrder) 4 12 [(0, .ref (xa σ 5)), (1, .int (nI b.2.1)), (2, .int (nI r)), (3, .int (nI x))] [] (WC G (si σ 7 b.1)) 0 0) (by
      intro x ⟨f, m, o⟩ hx a1
      have a1 : OrdC g m (DD g r x) f o := a1
      have c20 : ¬ xi (si σ 7 f) 1 0 ≤ nI x := by rw [show xi (si σ 7 f) 1 0 = xi σ 1 0 from rfl, hg.1, n_le (by omega) (by omega)]; omega
      have eb : bc (xi (si σ 7 f) 6 x) = nI (rk g x) := bc_rk hw h2 hx (hL x hx)
      have hb := rk_bd h4 hx
      by_cases c : rk g x = r
      · have hd : ¬ DD g r x x = true := by rw [DD_iff]; omega
        have b2 := a1.add (dn' := DD g r (x + 1)) (f' := upd f m (nI x)) hx hd (fun i hi => DD_iff.mpr ⟨Lf_lt h2 hx hi, .inl (c ▸ rk_lt h2 h4 hx hi)⟩) (fun i => by
          rw [DD_iff, DD_iff]
          constructor
          · rintro ⟨q1, q2 | ⟨q2, q3⟩⟩
            · exact .inl ⟨q1, .inl q2⟩
            · by_cases e : i = x
              · exact .inr e
              · exact .inl ⟨q1, .inr ⟨q2, by omega⟩⟩
          · rintro (⟨q1, q2 | ⟨q2, q3⟩⟩ | rfl)
            · exact ⟨q1, .inl q2⟩
            · exact ⟨q1, .inr ⟨q2, by omega⟩⟩
            · exact ⟨hx, .inr ⟨c, by omega⟩⟩) (by simp [upd]) (fun k hk => by simp only [upd]; rw [if_neg (by omega)])
        have hm : m + 1 ≤ gR g := by rw [b2.2.2.1]; exact cnt_le _ _
        refine ⟨(upd f m (nI x), m + 1, fun k => if k = m then x else o k), b2, fun q X k => ?_⟩
        refine sg_S_findOrder_12_ff12 X (si σ 7 f) (nI m) (nI r) (nI x) x m c20 rfl (by omega) (by rw [eb, c]) rfl (by omega) ?_
        rw [n_s, n_s, wi_si]
        exact k
      · refine ⟨(f, m, o), a1.eq (fun i => ?_), fun q X k => ?_⟩
        · show DD g r (x + 1) i = true ↔ DD g r x i = true
          rw [DD_iff, DD_iff]
          constructor
          · rintro ⟨q1, q2 | ⟨q2, q3⟩⟩
            · exact ⟨q1, .inl q2⟩
            · by_cases e : i = x
              · exact absurd (e ▸ q2) c
              · exact ⟨q1, .inr ⟨q2, by omega⟩⟩
          · rintro ⟨q1, q2 | ⟨q2, q3⟩⟩
            · exact ⟨q1, .inl q2⟩
            · exact ⟨q1, .inr ⟨q2, by omega⟩⟩
        · refine sg_S_findOrder_12_ft12 X (si σ 7 f) (nI m) (nI r) (nI x) x c20 rfl (by omega) (by rw [eb, n_eq (by omega) (by omega)]; exact c) ?_
          rw [n_s]
          exact k) 0 (f, m, o) (by omega) a1
    refine ⟨(f2, m2, o2), b1.eq (fun i => ?_), fun q X k => ?_⟩
    · show DD g (r + 1) 0 i = true ↔ DD g r (gR g) i = true
      rw [DD_iff, DD_iff]; omega
    · refine sg_S_findOrder_4_f12 X (si σ 7 f) (nI m) (nI r) (by rw [show (16 : Int32) = nI 16 from rfl, n_le (by omega) (by omega)]; omega) ?_
      refine k2 q X ?_
      refine sg_S_findOrder_12_t4 X (si σ 7 f2) (nI m2) (nI r) (nI (gR g)) (by rw [show xi (si σ 7 f2) 1 0 = xi σ 1 0 from rfl, hg.1]; exact Int32.le_refl _) ?_
      rw [n_s]
      exact k) 0 (xi σ 7, 0, fun _ => 0) (by omega) ⟨fun k hk => absurd hk (Nat.not_lt_zero _), fun i => by
        show DD g 0 0 i = true ↔ _
        rw [DD_iff]
        constructor
        · rintro ⟨_, q | ⟨_, q⟩⟩ <;> omega
        · rintro ⟨k, q, _⟩; exact absurd q (Nat.not_lt_zero _), by
        show 0 = cnt (DD g 0 0) (gR g)
        have : ∀ n, cnt (DD g 0 0) n = 0 := by
          intro n
          induction n with
          | zero => rfl
          | succ n ih =>
            show cnt (DD g 0 0) n + (if DD g 0 0 n then 1 else 0) = 0
            have : DD g 0 0 n = false := pB_f.mpr (by omega)
            rw [ih, this]; rfl
        exact (this _).symm, fun k hk => absurd hk (Nat.not_lt_zero _)⟩
  have a1 : OrdC g m (DD g 16 0) f o := a1
  obtain ⟨b1, b2, b3, b4⟩ := a1
  have hm : m = gR g := by
    rw [b3]; exact cnt_all (fun i hi => DD_iff.mpr ⟨hi, .inl (by have := rk_bd h4 hi; omega)⟩)
  refine ⟨f, o, ⟨⟨fun k hk => (b1 k (by omega)).2, fun x hx => ?_, fun k hk y hy => b4 k (by omega) y hy⟩, fun k hk => (b1 k (by omega)).1⟩, ?_⟩
  · obtain ⟨k, q1, q2⟩ := (b2 x).mp (DD_iff.mpr ⟨hx, .inl (by have := rk_bd h4 hx; omega)⟩)
    exact ⟨k, by omega, q2⟩
  · refine Ct.of (by decide +kernel) (Nat.le_of_ble_eq_true rfl) (fun K X => ?_)
    refine sg_S_findOrder_0_4 X σ ?_
    have k1 := k1 (K, _, eqp none (WC G (si σ 7 f))) X
    rw [si_id] at k1
    refine k1 ?_
    exact sg_S_findOrder_4_tr X (si σ 7 f) (nI m) (nI 16) (by decide) ⟨rfl, rfl⟩
