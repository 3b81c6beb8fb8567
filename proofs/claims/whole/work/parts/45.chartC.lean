/-! the component's chart -/
theorem k_rT_loop (G : GG) {e : Nat} {σ : St} (he : e ≤ 60) (z : Int32) (S : Nat → Prop) (hS : ∀ i, tb (xl σ 12 0) i = true ↔ S i) (hSe : ∀ i, S i → i ≤ e) (hE : xi σ 12 0 = nI e) {v : Nat} (hv : xi σ 12 1 = nI v) (hve : v ≤ e) :
    ∃ s : Sq, (xi (xa σ, s) 12 0 = nI e ∧ xi (xa σ, s) 12 1 = nI (mx (fun m => m = v ∨ S m) e) ∧ xl (xa σ, s) = xl σ ∧ Fr (inR 12 12) σ (xa σ, s)) ∧ ∀ q, (fun q : KP => Bd q.1 G q.2.1 "FirstTrees$Chart" c_C_readToken 3 none rm_C_readToken) q → q.2.2 none (WC G (xa σ, s)) →
      Lb q.1 G q.2.1 (Qe q.1 G q.2.1 q.2.2 rm_C_readToken) 3 50 [(0, .ref (xa σ 12)), (1, .int z), (2, .int (nI (v + 1)))] [] (WC G σ) 0 0 := by
  refine iterE (α := Sq) (C := fun q : KP => Bd q.1 G q.2.1 "FirstTrees$Chart" c_C_readToken 3 none rm_C_readToken) (e + 1) (fun i s => xi (xa σ, s) 12 0 = nI e ∧ xi (xa σ, s) 12 1 = nI (i - 1) ∧ xl (xa σ, s) = xl σ ∧ Fr (inR 12 12) σ (xa σ, s) ∧ v + 1 ≤ i ∧ (i - 1 = v ∨ ∃ m, i - 1 ≤ m ∧ S m))
    (fun q i s => Lb q.1 G q.2.1 (Qe q.1 G q.2.1 q.2.2 rm_C_readToken) 3 50 [(0, .ref (xa σ 12)), (1, .int z), (2, .int (nI i))] [] (WC G (xa σ, s)) 0 0)
    (fun s : Sq => xi (xa σ, s) 12 0 = nI e ∧ xi (xa σ, s) 12 1 = nI (mx (fun m => m = v ∨ S m) e) ∧ xl (xa σ, s) = xl σ ∧ Fr (inR 12 12) σ (xa σ, s)) (fun q s => q.2.2 none (WC G (xa σ, s))) ?_ ?_ (v + 1) σ.2 (by omega) ⟨hE, hv, rfl, Fr.refl _ _, by omega, .inl (by omega)⟩
  · intro i s hi ⟨h0, h1, h2, h3, h4, h5⟩
    have c55 : ¬ xi (xa σ, s) 12 0 < nI i := by rw [h0, n_lt (by omega) (by omega)]; omega
    have hb : ∀ j, tb (xl (xa σ, s) 12 0) j = true ↔ S j := by rw [h2]; exact hS
    by_cases c : ∃ m, i ≤ m ∧ S m
    · have c65 : ¬ ushrL (xl (xa σ, s) 12 0) (nI i) = 0 := by
        rw [ushr_z (by omega)]
        intro w
        obtain ⟨m, hm, hs⟩ := c
        have := w m hm
        rw [(hb m).mpr hs] at this; cases this
      refine .inr ⟨(wi (xa σ, s) 12 1 (nI i)).2, ⟨h0, by rw [Nat.add_sub_cancel]; rfl, h2, h3.i (by decide) 1 (nI i), by omega, .inr ?_⟩, fun q X kk => ?_⟩
      · obtain ⟨m, hm, hs⟩ := c; exact ⟨m, by omega, hs⟩
      · refine sg_C_readToken_50_ff50 X (xa σ, s) _ _ c55 c65 ?_
        rw [n_s]; exact kk
    · refine .inl ⟨s, ⟨h0, ?_, h2, h3⟩, fun q X kk => ?_⟩
      · rw [h1]; congr 1
        refine (mx_eq (by omega) ?_ ?_).symm
        · rcases h5 with h5 | ⟨m, h6, h7⟩
          · exact .inl h5
          · have : m = i - 1 := by
              by_cases q : i ≤ m
              · exact absurd ⟨m, q, h7⟩ c
              · omega
            subst this; exact .inr h7
        · rintro m _ (q | q)
          · omega
          · have : ¬ i ≤ m := fun w => c ⟨m, w, q⟩
            omega
      · refine sg_C_readToken_50_ftr X (xa σ, s) _ _ c55 ?_ kk
        rw [ushr_z (by omega)]
        intro m hm
        rw [← Bool.not_eq_true, hb]
        exact fun w => c ⟨m, hm, w⟩
  · intro s ⟨h0, h1, h2, h3, h4, h5⟩
    refine ⟨s, ⟨h0, ?_, h2, h3⟩, fun q X kk => sg_C_readToken_50_tr X (xa σ, s) _ _ (by rw [h0, n_lt (by omega) (by omega)]; omega) kk⟩
    rw [h1]; congr 1
    refine (mx_eq (by omega) ?_ ?_).symm
    · rcases h5 with h5 | ⟨m, h6, h7⟩
      · exact .inl h5
      · have := hSe m h7
        have : m = e + 1 - 1 := by omega
        subst this; exact .inr h7
    · intro m hm _; omega
theorem k_readToken (G : GG) {T : Nat → Int} {e : Nat} {σ : St} (he : e ≤ 60) (hP : ∀ t : Nat, t < 32 → ∀ i, tb (xl σ 13 t) i = true ↔ (i < e ∧ T i = t)) {z : Int} (hz : 0 ≤ z) (hz2 : z ≤ 31) (S : Nat → Prop) (hS : ∀ i, tb (xl σ 12 0) i = true ↔ S i) (hSe : ∀ i, S i → i ≤ e) (hE : xi σ 12 0 = nI e) {v : Nat} (hv : xi σ 12 1 = nI v) (hve : v ≤ e) :
    ∃ s : Sq, (xi (xa σ, s) 12 0 = nI e ∧ xi (xa σ, s) 12 1 = nI (mx (fun m => m = v ∨ ∃ q, S q ∧ q < e ∧ T q = z ∧ m = q + 1) e) ∧ (∀ i, tb (xl (xa σ, s) 12 0) i = true ↔ ∃ q, S q ∧ q < e ∧ T q = z ∧ i = q + 1) ∧
      (∀ t : Nat, tb (xl (xa σ, s) 12 1) t = true ↔ (tb (xl σ 12 1) t = true ∨ (S e ∧ z = t))) ∧ Fr (inR 12 12) σ (xa σ, s)) ∧ Ct y_C_readToken c_C_readToken 3 none rm_C_readToken G [.ref (xa σ 12), .int (sI z)] (WC G σ) (eqp none (WC G (xa σ, s))) := by
  have hbit : ∀ i, tb (shlL (xl σ 12 0 &&& xl σ 13 z.toNat) 1) i = true ↔ ∃ q, S q ∧ q < e ∧ T q = z ∧ i = q + 1 := by
    intro i
    rw [tb_shl1]
    constructor
    · rintro ⟨q, h1, h2, h3⟩
      rw [tb_and, Bool.and_eq_true, hS, hP _ (by omega)] at h1
      exact ⟨q, h1.1, h1.2.1, by have := h1.2.2; omega, h2⟩
    · rintro ⟨q, h1, h2, h3, h4⟩
      refine ⟨q, ?_, h4, by omega⟩
      rw [tb_and, Bool.and_eq_true, hS, hP _ (by omega)]
      exact ⟨h1, h2, by omega⟩
  have hle : ∀ i, (∃ q, S q ∧ q < e ∧ T q = z ∧ i = q + 1) → i ≤ e := by rintro i ⟨q, _, h2, _, h4⟩; omega
  by_cases c : S e
  · obtain ⟨s, ⟨h1, h2, h3, h4⟩, k1⟩ := k_rT_loop G (σ := wl (wl σ 12 1 (xl σ 12 1 ||| shlL 1 (sI z))) 12 0 (shlL (xl σ 12 0 &&& xl σ 13 z.toNat) 1)) he (sI z) _ hbit hle hE hv hve
    refine ⟨s, ⟨h1, h2, ?_, ?_, ?_⟩, ?_⟩
    · intro i; rw [h3]; exact hbit i
    · intro t; rw [h3]
      show tb (xl σ 12 1 ||| shlL 1 (sI z)) t = true ↔ _
      rw [tb_or, Bool.or_eq_true, nN hz, tb_shlL (by omega), decide_eq_true_eq]
      exact ⟨fun w => w.elim .inl (fun w => .inr ⟨c, by omega⟩), fun w => w.elim .inl (fun w => .inr (by omega))⟩
    · exact (((Fr.refl _ σ).l (by decide) _ _).l (by decide) _ _).trans h4
    · refine Ct.of (by decide +kernel) (Nat.le_of_ble_eq_true rfl) (fun K X => ?_)
      refine sg_C_readToken_0_f50 X σ _ z.toNat (by rw [hE, has1 (by omega), hS]; exact c) (nN hz) (by omega) ?_
      rw [hv, n_s]
      exact k1 (K, _, _) X ⟨rfl, rfl⟩
  · obtain ⟨s, ⟨h1, h2, h3, h4⟩, k1⟩ := k_rT_loop G (σ := wl σ 12 0 (shlL (xl σ 12 0 &&& xl σ 13 z.toNat) 1)) he (sI z) _ hbit hle hE hv hve
    refine ⟨s, ⟨h1, h2, ?_, ?_, ?_⟩, ?_⟩
    · intro i; rw [h3]; exact hbit i
    · intro t; rw [h3]
      show tb (xl σ 12 1) t = true ↔ _
      exact ⟨.inl, fun w => w.elim id (fun w => absurd w.1 c)⟩
    · exact ((Fr.refl _ σ).l (by decide) _ _).trans h4
    · refine Ct.of (by decide +kernel) (Nat.le_of_ble_eq_true rfl) (fun K X => ?_)
      refine sg_C_readToken_0_t50 X σ _ z.toNat (by rw [hE, has0' (by omega), hS]; exact c) (nN hz) (by omega) ?_
      rw [hv, n_s]
      exact k1 (K, _, _) X ⟨rfl, rfl⟩
/-- the entry of rule y from q is right -/
def okT (g : Gr) (T : Nat → Int) (e : Nat) (σ : St) (y q : Nat) : Prop := (∀ i, tb (xl σ 16 (61 * y + q)) i = true ↔ En g T e y q i) ∧ xi σ 17 (61 * y + q) = nI (far g T e y q) ∧ ∀ t, tb (xl σ 18 (61 * y + q)) t = true ↔ Sn g T e y q t
theorem okT.fr {g : Gr} {T : Nat → Int} {e : Nat} {P : Nat → Prop} {σ σ' : St} {y q : Nat} (h : okT g T e σ y q) (hf : Fr P σ σ') (hp : ¬ P 16 ∧ ¬ P 17 ∧ ¬ P 18) : okT g T e σ' y q := by
  unfold okT; rw [hf.el 16 hp.1, hf.ei 17 hp.2.1, hf.el 18 hp.2.2]; exact h
theorem k_readRule (G : GG) {g : Gr} {T : Nat → Int} {e : Nat} {σ : St} (he : e ≤ 60) {y p : Nat} (hy : y < gR g) (hy16 : y < 16) (hp : p ≤ e) (S : Nat → Prop) (hS : ∀ i, tb (xl σ 12 0) i = true ↔ S i) (hSe : ∀ i, S i → p ≤ i ∧ i ≤ e) (hok : ∀ i, S i → okT g T e σ y i) (hE : xi σ 12 0 = nI e) {v : Nat} (hv : xi σ 12 1 = nI v) (hve : v ≤ e) :
    ∃ s : Sq, (xi (xa σ, s) 12 0 = nI e ∧ xi (xa σ, s) 12 1 = nI (mx (fun m => m = v ∨ ∃ q, S q ∧ Tc g T e y q m) e) ∧ (∀ i, tb (xl (xa σ, s) 12 0) i = true ↔ ∃ q, S q ∧ En g T e y q i) ∧
      (∀ t : Nat, tb (xl (xa σ, s) 12 1) t = true ↔ (tb (xl σ 12 1) t = true ∨ ∃ q, S q ∧ Sn g T e y q t)) ∧ Fr (inR 12 12) σ (xa σ, s)) ∧ Ct y_C_readRule c_C_readRule 7 none rm_C_readRule G [.ref (xa σ 12), .int (nI y), .int (nI p)] (WC G σ) (eqp none (WC G (xa σ, s))) := by
  refine exE (iterE (α := Sq × Int64) (β := Sq) (C := fun q : KP => Bd q.1 G q.2.1 "FirstTrees$Chart" c_C_readRule 7 none rm_C_readRule) (e + 1)
    (fun i a => xi (xa σ, a.1) 12 0 = nI e ∧ xi (xa σ, a.1) 12 1 = nI (mx (fun m => m = v ∨ ∃ q, q < i ∧ S q ∧ Tc g T e y q m) e) ∧ xl (xa σ, a.1) 12 0 = xl σ 12 0 ∧ (∀ j, tb a.2 j = true ↔ ∃ q, q < i ∧ S q ∧ En g T e y q j) ∧
      (∀ t : Nat, tb (xl (xa σ, a.1) 12 1) t = true ↔ (tb (xl σ 12 1) t = true ∨ ∃ q, q < i ∧ S q ∧ Sn g T e y q t)) ∧ Fr (inR 12 12) σ (xa σ, a.1))
    (fun q i a => Lb q.1 G q.2.1 (Qe q.1 G q.2.1 q.2.2 rm_C_readRule) 7 5 [(0, .ref (xa σ 12)), (1, .int (nI y)), (2, .int (nI p)), (3, .long a.2), (5, .int (nI i))] [] (WC G (xa σ, a.1)) 0 0)
    (fun s : Sq => xi (xa σ, s) 12 0 = nI e ∧ xi (xa σ, s) 12 1 = nI (mx (fun m => m = v ∨ ∃ q, S q ∧ Tc g T e y q m) e) ∧ (∀ i, tb (xl (xa σ, s) 12 0) i = true ↔ ∃ q, S q ∧ En g T e y q i) ∧
      (∀ t : Nat, tb (xl (xa σ, s) 12 1) t = true ↔ (tb (xl σ 12 1) t = true ∨ ∃ q, S q ∧ Sn g T e y q t)) ∧ Fr (inR 12 12) σ (xa σ, s)) (fun q s => q.2.2 none (WC G (xa σ, s))) ?_ ?_ p (σ.2, 0) (by omega) ⟨hE, ?_, rfl, ?_, ?_, Fr.refl _ _⟩) (fun s h1 k1 => ?_)
  · intro i ⟨s, w⟩ hi ⟨h0, h1, h2, h3, h4, h5⟩
    have h0 : xi (xa σ, s) 12 0 = nI e := h0
    have h1 : xi (xa σ, s) 12 1 = nI (mx (fun m => m = v ∨ ∃ q, q < i ∧ S q ∧ Tc g T e y q m) e) := h1
    have h2 : xl (xa σ, s) 12 0 = xl σ 12 0 := h2
    have h3 : ∀ j, tb w j = true ↔ ∃ q, q < i ∧ S q ∧ En g T e y q j := h3
    have h4 : ∀ t : Nat, tb (xl (xa σ, s) 12 1) t = true ↔ (tb (xl σ 12 1) t = true ∨ ∃ q, q < i ∧ S q ∧ Sn g T e y q t) := h4
    have h5 : Fr (inR 12 12) σ (xa σ, s) := h5
    have c11 : ¬ xi (xa σ, s) 12 0 < nI i := by rw [h0, n_lt (by omega) (by omega)]; omega
    have hb : ∀ j, tb (xl (xa σ, s) 12 0) j = true ↔ S j := by rw [h2]; exact hS
    by_cases c : ∃ m, i ≤ m ∧ S m
    · have c22 : ¬ ushrL (xl (xa σ, s) 12 0) (nI i) = 0 := by
        rw [ushr_z (by omega)]
        intro w
        obtain ⟨m, hm, hs⟩ := c
        have := w m hm
        rw [(hb m).mpr hs] at this; cases this
      by_cases d : S i
      · obtain ⟨o1, o2, o3⟩ := (hok i d).fr h5 (by decide)
        have hid := (hSe i d).2
        refine .inr ⟨((wl (wi (xa σ, s) 12 1 (imax (xi (xa σ, s) 12 1) (xi (xa σ, s) 17 (61 * y + i)))) 12 1 (xl (xa σ, s) 12 1 ||| xl (xa σ, s) 18 (61 * y + i))).2, w ||| xl (xa σ, s) 16 (61 * y + i)), ⟨h0, ?_, h2, ?_, ?_, (h5.i (by decide) _ _).l (by decide) _ _⟩, fun q X kk => ?_⟩
        · show imax (xi (xa σ, s) 12 1) (xi (xa σ, s) 17 (61 * y + i)) = _
          have b1 := mx_le (fun m => m = v ∨ ∃ q, q < i ∧ S q ∧ Tc g T e y q m) e
          have b2 := mx_le (Tc g T e y i) e
          rw [h1, o2, imax_n (by omega) (by unfold far; omega)]
          unfold far
          rw [← mx_or hve (.inl rfl) hid (Tc_self hy hid)]
          congr 1
          refine mx_congr (fun m => ?_) e
          constructor
          · rintro ((a | ⟨q, a1, a2, a3⟩) | a)
            · exact .inl a
            · exact .inr ⟨q, by omega, a2, a3⟩
            · exact .inr ⟨i, by omega, d, a⟩
          · rintro (a | ⟨q, a1, a2, a3⟩)
            · exact .inl (.inl a)
            · by_cases eq : q = i
              · subst eq; exact .inr a3
              · exact .inl (.inr ⟨q, by omega, a2, a3⟩)
        · intro j
          show tb (w ||| xl (xa σ, s) 16 (61 * y + i)) j = true ↔ _
          rw [tb_or, Bool.or_eq_true, h3, o1]
          constructor
          · rintro (⟨q, a1, a2, a3⟩ | a)
            · exact ⟨q, by omega, a2, a3⟩
            · exact ⟨i, by omega, d, a⟩
          · rintro ⟨q, a1, a2, a3⟩
            by_cases eq : q = i
            · subst eq; exact .inr a3
            · exact .inl ⟨q, by omega, a2, a3⟩
        · intro t
          show tb (xl (xa σ, s) 12 1 ||| xl (xa σ, s) 18 (61 * y + i)) t = true ↔ _
          rw [tb_or, Bool.or_eq_true, h4, o3]
          constructor
          · rintro ((a | ⟨q, a1, a2, a3⟩) | a)
            · exact .inl a
            · exact .inr ⟨q, by omega, a2, a3⟩
            · exact .inr ⟨i, by omega, d, a⟩
          · rintro (a | ⟨q, a1, a2, a3⟩)
            · exact .inl (.inl a)
            · by_cases eq : q = i
              · subst eq; exact .inr a3
              · exact .inl (.inr ⟨q, by omega, a2, a3⟩)
        · refine sg_C_readRule_5_fff5 X (xa σ, s) _ _ _ _ (61 * y + i) c11 c22 (by rw [has1 (by omega), hb]; exact d) (m61 y i) (by omega) ?_
          rw [n_s]; exact kk
      · have hx : ∀ (P : Nat → Prop), (∃ q, q < i + 1 ∧ S q ∧ P q) ↔ ∃ q, q < i ∧ S q ∧ P q := by
          intro P
          constructor
          · rintro ⟨q, a1, a2, a3⟩
            refine ⟨q, ?_, a2, a3⟩
            by_cases eq : q = i
            · subst eq; exact absurd a2 d
            · omega
          · rintro ⟨q, a1, a2, a3⟩; exact ⟨q, by omega, a2, a3⟩
        refine .inr ⟨(s, w), ⟨h0, ?_, h2, fun j => by rw [hx]; exact h3 j, fun t => by rw [hx]; exact h4 t, h5⟩, fun q X kk => ?_⟩
        · show xi (xa σ, s) 12 1 = _
          rw [h1]; congr 1; exact mx_congr (fun m => by rw [hx]) e
        · refine sg_C_readRule_5_fft5 X (xa σ, s) _ _ _ _ c11 c22 (by rw [has0' (by omega), hb]; exact d) ?_
          rw [n_s]; exact kk
    · have hx : ∀ (P : Nat → Prop), (∃ q, S q ∧ P q) ↔ ∃ q, q < i ∧ S q ∧ P q := by
        intro P
        constructor
        · rintro ⟨q, a2, a3⟩
          refine ⟨q, ?_, a2, a3⟩
          exact Classical.byContradiction (fun w => c ⟨q, by omega, a2⟩)
        · rintro ⟨q, a1, a2, a3⟩; exact ⟨q, a2, a3⟩
      refine .inl ⟨(wl (xa σ, s) 12 0 w).2, ⟨h0, ?_, fun j => by rw [hx]; exact h3 j, fun t => by rw [hx]; exact h4 t, h5.l (by decide) _ _⟩, fun q X kk => ?_⟩
      · show xi (xa σ, s) 12 1 = _
        rw [h1]; congr 1; exact mx_congr (fun m => by rw [hx]) e
      · refine sg_C_readRule_5_ftr X (xa σ, s) _ _ _ _ c11 ?_ kk
        rw [ushr_z (by omega)]
        intro m hm
        rw [← Bool.not_eq_true, hb]
        exact fun w => c ⟨m, hm, w⟩
  · intro ⟨s, w⟩ ⟨h0, h1, h2, h3, h4, h5⟩
    have h0 : xi (xa σ, s) 12 0 = nI e := h0
    have h1 : xi (xa σ, s) 12 1 = nI (mx (fun m => m = v ∨ ∃ q, q < e + 1 ∧ S q ∧ Tc g T e y q m) e) := h1
    have hx : ∀ (P : Nat → Prop), (∃ q, S q ∧ P q) ↔ ∃ q, q < e + 1 ∧ S q ∧ P q := by
      intro P
      constructor
      · rintro ⟨q, a2, a3⟩; exact ⟨q, by have := (hSe q a2).2; omega, a2, a3⟩
      · rintro ⟨q, a1, a2, a3⟩; exact ⟨q, a2, a3⟩
    refine ⟨(wl (xa σ, s) 12 0 w).2, ⟨h0, ?_, fun j => by rw [hx]; exact h3 j, fun t => by rw [hx]; exact h4 t, Fr.l h5 (by decide) _ _⟩, fun q X kk => ?_⟩
    · show xi (xa σ, s) 12 1 = _
      rw [h1]; congr 1; exact mx_congr (fun m => by rw [hx]) e
    · exact sg_C_readRule_5_tr X (xa σ, s) _ _ _ _ (by rw [h0, n_lt (by omega) (by omega)]; omega) kk
  · show xi σ 12 1 = _
    rw [hv]; congr 1
    refine (mx_eq hve (.inl rfl) ?_).symm
    rintro m _ (a | ⟨q, a1, a2, a3⟩)
    · omega
    · have := (hSe q a2).1; omega
  · intro j; rw [tb_0]
    exact ⟨fun w => (by cases w), fun ⟨q, a1, a2, a3⟩ => by have := (hSe q a2).1; omega⟩
  · intro t
    exact ⟨.inl, fun w => w.elim id (fun ⟨q, a1, a2, a3⟩ => by have := (hSe q a2).1; omega)⟩
  · refine ⟨s, h1, ?_⟩
    refine Ct.of (by decide +kernel) (Nat.le_of_ble_eq_true rfl) (fun K X => ?_)
    exact sg_C_readRule_0_5 X σ _ _ (k1 (K, _, _) X ⟨rfl, rfl⟩)