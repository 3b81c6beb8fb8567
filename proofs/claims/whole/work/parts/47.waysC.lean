/-! the component's ways -/
def nL (n : Nat) : Int64 := Int64.ofInt n
theorem nL_toInt {n : Nat} (h : n < 9223372036854775808) : (nL n).toInt = n := by
  unfold nL; rw [Int64.toInt_ofInt]; unfold Int.bmod; simp only [Int64.size]; omega
theorem nL_add (a b : Nat) : nL a + nL b = nL (a + b) := by unfold nL; rw [← Int64.ofInt_add]; congr 1
theorem nL_mul (a b : Nat) : nL a * nL b = nL (a * b) := by unfold nL; rw [← Int64.ofInt_mul]; congr 1
theorem nL_lt {a b : Nat} (h1 : a < 9223372036854775808) (h2 : b < 9223372036854775808) : nL a < nL b ↔ a < b := by
  rw [Int64.lt_iff_toInt_lt, nL_toInt h1, nL_toInt h2]; omega
theorem nL_0 {a : Nat} (h1 : a < 9223372036854775808) : nL a = 0 ↔ a = 0 := by
  constructor
  · intro h
    have := congrArg Int64.toInt h
    rw [nL_toInt h1] at this
    have e : (0 : Int64).toInt = 0 := rfl
    omega
  · intro h; rw [h]; rfl
theorem nL_i {a : Nat} (h : a < 2147483648) : Int32.toInt64 (nI a) = nL a := by
  apply Int64.toInt_inj.mp
  rw [Int32.toInt_toInt64, nL_toInt (by omega), nI_sI, sI_toInt (by omega) (by omega)]
theorem nL_l {a : Nat} (h : a < 2147483648) : Int64.toInt32 (nL a) = nI a := by
  apply Int32.toInt_inj.mp
  rw [Int64.toInt_toInt32, nL_toInt (by omega), nI_sI, sI_toInt (by omega) (by omega)]
  show Int.bmod (a : Int) 4294967296 = a
  dsimp only [Int.bmod]; split <;> omega
theorem lmin_cp {a : Nat} (h : a < 9223372036854775808) : lmin 1000000000 (nL a) = nL (cp a) := by
  unfold lmin cp
  rw [show (1000000000 : Int64) = nL 1000000000 from rfl]
  by_cases c : a < 1000000000
  · rw [if_pos ((nL_lt h (by omega)).mpr c), Nat.min_eq_right (by omega)]
  · rw [if_neg (fun q => c ((nL_lt h (by omega)).mp q)), Nat.min_eq_left (by omega)]
theorem capL_cp {a : Nat} (h : a < 9223372036854775808) : capL (nL a) = nL (cp a) := by
  unfold capL cp
  rw [show (1000000000 : Int64) = nL 1000000000 from rfl]
  by_cases c : 1000000000 < a
  · rw [if_pos ((nL_lt (by omega) h).mpr c), Nat.min_eq_left (by omega)]
  · rw [if_neg (fun q => c ((nL_lt (by omega) h).mp q)), Nat.min_eq_right (by omega)]
theorem m61q (a b c : Nat) : (nI a * 61 + nI b) * 61 + nI c = nI (61 * (61 * a + b) + c) := by rw [m61, m61]
theorem sumN_upd {f f' : Nat → Nat} {n w : Nat} (hw : w < n) {a : Nat} (h : ∀ i, i < n → i ≠ w → f' i = f i) (h2 : f' w = f w + a) : sumN f' n = sumN f n + a := by
  induction n with
  | zero => omega
  | succ n ih =>
    show sumN f' n + f' n = sumN f n + f n + a
    by_cases e : w = n
    · subst e; rw [h2, sumN_congr (f := f') (f' := f) (fun i hi => h i (by omega) (by omega))]; omega
    · rw [ih (by omega) (fun i hi => h i (by omega)), h n (by omega) (by omega)]; omega
/-- from the places i on -/
def psm (h : Nat → Nat) (N : Nat → Nat → Nat) (e i q : Nat) : Nat := sumN (fun m => if i ≤ m then h m * N m q else 0) (e + 1)
theorem psm_s {h : Nat → Nat} {N : Nat → Nat → Nat} {e i q : Nat} (hi : i ≤ e) : psm h N e i q = psm h N e (i + 1) q + h i * N i q := by
  refine sumN_upd (w := i) (by omega) (fun j _ hj => ?_) ?_
  · by_cases c : i ≤ j
    · rw [if_pos c, if_pos (show i + 1 ≤ j by omega)]
    · rw [if_neg c, if_neg (show ¬ i + 1 ≤ j by omega)]
  · simp only [Nat.le_refl, if_true]; rw [if_neg (by omega)]; omega
theorem psm_0 {h : Nat → Nat} {N : Nat → Nat → Nat} {e i q : Nat} (hN : ∀ m, q < m → N m q = 0) (hq : q < i) : psm h N e i q = 0 := by
  refine sumN_0 (fun m _ => ?_)
  by_cases c : i ≤ m
  · simp only [if_pos c]; rw [hN m (by omega), Nat.mul_zero]
  · simp only [if_neg c]
def okW (g : Gr) (T : Nat → Int) (e : Nat) (σ : St) (x p : Nat) : Prop := ∀ q, p ≤ q → q ≤ e → xi σ 20 (61 * (61 * x + p) + q) = nI (cp (Nw g T e x p q))
theorem okW.fr {g : Gr} {T : Nat → Int} {e : Nat} {P : Nat → Prop} {σ σ' : St} {x p : Nat} (h : okW g T e σ x p) (hf : Fr P σ σ') (hp : ¬ P 20) : okW g T e σ' x p := by
  unfold okW; rw [hf.ei 20 hp]; exact h
theorem k_spread (G : GG) {g : Gr} {T : Nat → Int} {e : Nat} {σ : St} (he : e ≤ 60) (hE : xi σ 12 0 = nI e) {y p b : Nat} (hy : y < 16) (hp : p ≤ e) (hok : okW g T e σ y p) (h : Nat → Nat) (hh : ∀ q, p ≤ q → q ≤ e → xl σ 21 q = nL (cp (h q))) :
    ∃ s : Sq, ((∀ q, p ≤ q → q ≤ e → xl (xa σ, s) 21 q = nL (cp (h q + b * Nw g T e y p q))) ∧ (∀ q, q < p → xl (xa σ, s) 21 q = xl σ 21 q) ∧ Fr (inR 21 21) σ (xa σ, s)) ∧
      Ct y_Y_spread c_Y_spread 8 none rm_Y_spread G [.ref (xa σ 19), .long (nL (cp b)), .int (nI y), .int (nI p)] (WC G σ) (eqp none (WC G (xa σ, s))) := by
  obtain ⟨s, ⟨_, a1, a2, a3⟩, k1⟩ := iterL (α := Sq) (C := fun q : KP => Bd q.1 G q.2.1 "FirstTrees$Ways" c_Y_spread 8 none rm_Y_spread) (e + 1) (fun i s => p ≤ i ∧ (∀ q, p ≤ q → q ≤ e → xl (xa σ, s) 21 q = nL (cp (h q + if q < i then b * Nw g T e y p q else 0))) ∧ (∀ q, q < p → xl (xa σ, s) 21 q = xl σ 21 q) ∧ Fr (inR 21 21) σ (xa σ, s))
    (fun q i s => Lb q.1 G q.2.1 (Qe q.1 G q.2.1 q.2.2 rm_Y_spread) 8 4 [(0, .ref (xa σ 19)), (1, .long (nL (cp b))), (3, .int (nI y)), (4, .int (nI p)), (5, .int (nI i))] [] (WC G (xa σ, s)) 0 0) (by
    intro i s hi ⟨a0, a1, a2, a3⟩
    have hv : lmin 1000000000 (xl (xa σ, s) 21 i + nL (cp b) * Int32.toInt64 (xi (xa σ, s) 20 (61 * (61 * y + p) + i))) = nL (cp (h i + b * Nw g T e y p i)) := by
      have c1 := cp_le (h i)
      have c2 := cp_le (Nw g T e y p i)
      have c3 := cp_bd b (Nw g T e y p i)
      rw [a1 i a0 (by omega), if_neg (by omega), Nat.add_zero, a3.ei 20 (by decide), hok i a0 (by omega), nL_i (by omega), nL_mul, nL_add, lmin_cp (by omega), cp_add, ← cp_addr, cp_mul, cp_addr]
    refine ⟨(wl (xa σ, s) 21 i (lmin 1000000000 (xl (xa σ, s) 21 i + nL (cp b) * Int32.toInt64 (xi (xa σ, s) 20 (61 * (61 * y + p) + i))))).2, ⟨by omega, fun q h1 h2 => ?_, fun q h1 => ?_, a3.l (by decide) _ _⟩, fun q X kk => ?_⟩
    · show vp_updL (xl (xa σ, s) 21) i _ q = _
      by_cases eq : q = i
      · subst eq; rw [updL_at, hv, if_pos (by omega)]
      · rw [updL_ne _ _ eq, a1 q h1 h2]
        by_cases c : q < i
        · rw [if_pos c, if_pos (by omega)]
        · rw [if_neg c, if_neg (by omega)]
    · show vp_updL (xl (xa σ, s) 21) i _ q = _
      rw [updL_ne _ _ (by omega)]; exact a2 q h1
    · refine sg_Y_spread_4_f4 X (xa σ, s) _ _ _ _ (61 * (61 * y + p) + i) i (by rw [a3.ei 12 (by decide), hE, n_lt (by omega) (by omega)]; omega) (m61q y p i) (by omega) rfl (by omega) ?_
      rw [n_s]; exact kk) p σ.2 (by omega) ⟨Nat.le_refl _, fun q h1 h2 => by rw [if_neg (by omega), Nat.add_zero]; exact hh q h1 h2, fun q _ => rfl, Fr.refl _ _⟩
  refine ⟨s, ⟨fun q h1 h2 => by rw [a1 q h1 h2, if_pos (by omega)], a2, a3⟩, ?_⟩
  refine Ct.of (by decide +kernel) (Nat.le_of_ble_eq_true rfl) (fun K X => ?_)
  refine sg_Y_spread_0_4 X σ _ _ _ (k1 (K, _, _) X ?_)
  exact sg_Y_spread_4_tr X (xa σ, s) _ _ _ _ (by rw [a3.ei 12 (by decide), hE, n_lt (by omega) (by omega)]; omega) ⟨rfl, rfl⟩
theorem k_YreadRule (G : GG) {g : Gr} {T : Nat → Int} {e : Nat} {σ : St} (he : e ≤ 60) (hE : xi σ 12 0 = nI e) {y p : Nat} (hy : y < 16) (hp : p ≤ e) (h : Nat → Nat) (hh : ∀ q, p ≤ q → q ≤ e → xl σ 21 q = nL (cp (h q))) (hok : ∀ m, p ≤ m → m ≤ e → h m ≠ 0 → okW g T e σ y m) :
    ∃ s : Sq, ((∀ q, p ≤ q → q ≤ e → xl (xa σ, s) 21 q = nL (cp (psm h (Nw g T e y) e p q))) ∧ Fr (inR 21 21) σ (xa σ, s)) ∧
      Ct y_Y_readRule c_Y_readRule 6 none rm_Y_readRule G [.ref (xa σ 19), .int (nI y), .int (nI p)] (WC G σ) (eqp none (WC G (xa σ, s))) := by
  have hN0 : ∀ m q, q < m → Nw g T e y m q = 0 := fun m q hq => Classical.byContradiction (fun w => by have := (En_bd (Nw_en w)).2.1; omega)
  obtain ⟨s, ⟨_, a1, a2⟩, k1⟩ := iterD (α := Sq) (C := fun q : KP => Bd q.1 G q.2.1 "FirstTrees$Ways" c_Y_readRule 6 none rm_Y_readRule) (fun i s => True ∧ (∀ q, p ≤ q → q ≤ e → xl (xa σ, s) 21 q = nL (cp (if q < i + p then h q else psm h (Nw g T e y) e (i + p) q))) ∧ Fr (inR 21 21) σ (xa σ, s))
    (fun q i s => Lb q.1 G q.2.1 (Qe q.1 G q.2.1 q.2.2 rm_Y_readRule) 6 8 [(0, .ref (xa σ 19)), (1, .int (nI y)), (2, .int (nI p)), (3, .int (dI (i + p)))] [] (WC G (xa σ, s)) 0 0) (e + 1 - p) (by
    intro i s hi ⟨_, a1, a2⟩
    have e1 : i + 1 + p = (i + p) + 1 := by omega
    rw [e1] at a1
    generalize hm : i + p = m at a1 ⊢
    have hpm : p ≤ m := by omega
    have hme : m ≤ e := by omega
    have c10 : ¬ nI m < nI p := by rw [n_lt (by omega) (by omega)]; omega
    have hb : xl (xa σ, s) 21 m = nL (cp (h m)) := by rw [a1 m hpm hme, if_pos (by omega)]
    have cb := cp_le (h m)
    by_cases c : h m = 0
    · have c31 : xl (xa σ, s) 21 m = 0 := by rw [hb, c]; rfl
      refine ⟨(wl (xa σ, s) 21 m 0).2, ⟨trivial, fun q h1 h2 => ?_, a2.l (by decide) _ _⟩, fun q X kk => ?_⟩
      · show vp_updL (xl (xa σ, s) 21) m 0 q = _
        by_cases eq : q = m
        · subst eq
          rw [updL_at, if_neg (by omega), psm_s hme, c, Nat.zero_mul, psm_0 (fun m hm => hN0 m q hm) (by omega)]; rfl
        · rw [updL_ne _ _ eq, a1 q h1 h2]
          by_cases d : q < m
          · rw [if_pos d, if_pos (by omega)]
          · rw [if_neg d, if_neg (by omega), psm_s hme (i := m), c, Nat.zero_mul]; rfl
      · show Lb _ _ _ _ _ _ [(0, .ref (xa σ 19)), (1, .int (nI y)), (2, .int (nI p)), (3, .int (dI (i + 1 + p)))] _ _ _ _
        rw [e1, hm, dI_s]
        refine sg_Y_readRule_8_ft8 X (xa σ, s) _ _ _ m c10 rfl (by omega) c31 ?_
        rw [dI_m]; exact kk
    · have hE' : xi (wl (xa σ, s) 21 m 0) 12 0 = nI e := by show xi (xa σ, s) 12 0 = _; rw [a2.ei 12 (by decide)]; exact hE
      obtain ⟨s', ⟨b1, b2, b3⟩, t⟩ := k_spread G (σ := wl (xa σ, s) 21 m 0) (b := h m) he hE' hy hme ((hok m hpm hme c).fr (a2.l (by decide) m 0) (by decide)) (fun q => if q = m then 0 else psm h (Nw g T e y) e (m + 1) q) (by
        intro q h1 h2
        show vp_updL (xl (xa σ, s) 21) m 0 q = _
        by_cases eq : q = m
        · rw [eq, updL_at, if_pos rfl]; rfl
        · rw [updL_ne _ _ eq, if_neg eq, a1 q (by omega) h2, if_neg (by omega)])
      refine ⟨s', ⟨trivial, fun q h1 h2 => ?_, (a2.l (by decide) m 0).trans b3⟩, fun q X kk => ?_⟩
      · by_cases d : q < m
        · rw [if_pos d]
          have := b2 q d
          rw [show xl (xa σ, s') 21 q = xl (wl (xa σ, s) 21 m 0) 21 q from this]
          show vp_updL (xl (xa σ, s) 21) m 0 q = _
          rw [updL_ne _ _ (by omega), a1 q h1 h2, if_pos (by omega)]
        · rw [if_neg d]
          have := b1 q (by omega) h2
          rw [show xl (xa σ, s') 21 q = _ from this, psm_s hme]
          by_cases eq : q = m
          · rw [if_pos eq, eq, psm_0 (fun m' hm' => hN0 m' m hm') (by omega)]
          · rw [if_neg eq]
      · show Lb _ _ _ _ _ _ [(0, .ref (xa σ 19)), (1, .int (nI y)), (2, .int (nI p)), (3, .int (dI (i + 1 + p)))] _ _ _ _
        rw [e1, hm, dI_s]
        refine sg_Y_readRule_8_ff8 X (xa σ, s) _ _ _ m s' c10 rfl (by omega) (by rw [hb, nL_0 (by omega), cp_eq0]; exact c) (by rw [hb]; exact t) ?_
        rw [dI_m]; exact kk) (e + 1 - p) σ.2 (Nat.le_refl _) ⟨trivial, fun q h1 h2 => by rw [if_pos (by omega)]; exact hh q h1 h2, Fr.refl _ _⟩
  refine ⟨s, ⟨fun q h1 h2 => ?_, a2⟩, ?_⟩
  · rw [a1 q h1 h2, Nat.zero_add, if_neg (by omega)]
  · refine Ct.of (by decide +kernel) (Nat.le_of_ble_eq_true rfl) (fun K X => ?_)
    refine sg_Y_readRule_0_8 X σ _ _ ?_
    rw [hE]
    have := k1 (K, _, eqp none (WC G (xa σ, s))) X (sg_Y_readRule_8_tr X (xa σ, s) _ _ _ (by
      rw [Nat.zero_add]; unfold dI; rw [nI_sI, sI_lt (by omega) (by omega) (by omega) (by omega)]; omega) ⟨rfl, rfl⟩)
    simp only [show e + 1 - p + p = e + 1 from by omega, dI_s] at this
    exact this
theorem k_YreadToken (G : GG) {T : Nat → Int} {n e : Nat} {σ : St} (hT : WT T n) (he : e ≤ 60) (hE : xi σ 12 0 = nI e) (hI : ∀ i, i < 60 → xi σ 11 i = sI (T i)) {z : Int} (hz : 0 ≤ z) (hz2 : z ≤ 31) {p : Nat} (hp : p ≤ e) (h : Nat → Nat) (hh : ∀ q, p ≤ q → q ≤ e → xl σ 21 q = nL (cp (h q))) :
    ∃ s : Sq, ((∀ q, p ≤ q → q ≤ e → xl (xa σ, s) 21 q = nL (cp (if p < q ∧ T (q - 1) = z then h (q - 1) else 0))) ∧ Fr (inR 21 21) σ (xa σ, s)) ∧
      Ct y_Y_readToken c_Y_readToken 4 none rm_Y_readToken G [.ref (xa σ 19), .int (sI z), .int (nI p)] (WC G σ) (eqp none (WC G (xa σ, s))) := by
  obtain ⟨s, ⟨a1, a2⟩, k1⟩ := iterD (α := Sq) (C := fun q : KP => Bd q.1 G q.2.1 "FirstTrees$Ways" c_Y_readToken 4 none rm_Y_readToken) (fun i s => (∀ q, p ≤ q → q ≤ e → xl (xa σ, s) 21 q = nL (cp (if q ≤ i + p then h q else if T (q - 1) = z then h (q - 1) else 0))) ∧ Fr (inR 21 21) σ (xa σ, s))
    (fun q i s => Lb q.1 G q.2.1 (Qe q.1 G q.2.1 q.2.2 rm_Y_readToken) 4 8 [(0, .ref (xa σ 19)), (1, .int (sI z)), (2, .int (nI p)), (3, .int (nI (i + p)))] [] (WC G (xa σ, s)) 0 0) (e - p) (by
    intro i s hi ⟨a1, a2⟩
    have hb := hT.2 (i + p)
    have c10 : ¬ nI (i + 1 + p) ≤ nI p := by rw [n_le (by omega) (by omega)]; omega
    have e25 : nI (i + 1 + p) - 1 = nI (i + p) := by rw [n_p (by omega)]; congr 1; omega
    have hd : nI (i + 1 + p) + (-1) = nI (i + p) := by rw [dI_m, show i + 1 + p = (i + p) + 1 from by omega, dI_s]
    by_cases c : T (i + p) = z
    · refine ⟨(wl (xa σ, s) 21 (i + 1 + p) (xl (xa σ, s) 21 (i + p))).2, ⟨fun q h1 h2 => ?_, a2.l (by decide) _ _⟩, fun q X kk => ?_⟩
      · show vp_updL (xl (xa σ, s) 21) (i + 1 + p) _ q = _
        by_cases eq : q = i + 1 + p
        · subst eq
          rw [updL_at, a1 (i + p) (by omega) (by omega), if_pos (by omega), if_neg (by omega), show i + 1 + p - 1 = i + p from by omega, if_pos c]
        · rw [updL_ne _ _ eq, a1 q h1 h2]
          by_cases d : q ≤ i + p
          · rw [if_pos d, if_pos (by omega)]
          · rw [if_neg d, if_neg (by omega)]
      · refine sg_Y_readToken_8_ff8 X (xa σ, s) _ _ _ (i + p) (i + 1 + p) c10 e25 (by omega) (by rw [a2.ei 11 (by decide), hI _ (by omega), c]) rfl (by omega) ?_
        rw [hd]; exact kk
    · refine ⟨(wl (xa σ, s) 21 (i + 1 + p) 0).2, ⟨fun q h1 h2 => ?_, a2.l (by decide) _ _⟩, fun q X kk => ?_⟩
      · show vp_updL (xl (xa σ, s) 21) (i + 1 + p) _ q = _
        by_cases eq : q = i + 1 + p
        · subst eq
          rw [updL_at, if_neg (by omega), show i + 1 + p - 1 = i + p from by omega, if_neg c]; rfl
        · rw [updL_ne _ _ eq, a1 q h1 h2]
          by_cases d : q ≤ i + p
          · rw [if_pos d, if_pos (by omega)]
          · rw [if_neg d, if_neg (by omega)]
      · refine sg_Y_readToken_8_ft8 X (xa σ, s) _ _ _ (i + p) (i + 1 + p) c10 e25 (by omega) (by rw [a2.ei 11 (by decide), hI _ (by omega), sI_eq (by omega) (by omega) (by omega) (by omega)]; exact c) rfl (by omega) ?_
        rw [hd]; exact kk) (e - p) σ.2 (Nat.le_refl _) ⟨fun q h1 h2 => by rw [if_pos (by omega)]; exact hh q h1 h2, Fr.refl _ _⟩
  refine ⟨(wl (xa σ, s) 21 p 0).2, ⟨fun q h1 h2 => ?_, a2.l (by decide) _ _⟩, ?_⟩
  · show vp_updL (xl (xa σ, s) 21) p 0 q = _
    by_cases eq : q = p
    · rw [eq, updL_at, if_neg (fun w => by omega)]; rfl
    · rw [updL_ne _ _ eq, a1 q h1 h2, if_neg (by omega)]
      by_cases c : T (q - 1) = z
      · rw [if_pos c, if_pos ⟨by omega, c⟩]
      · rw [if_neg c, if_neg (fun w => c w.2)]
  · refine Ct.of (by decide +kernel) (Nat.le_of_ble_eq_true rfl) (fun K X => ?_)
    refine sg_Y_readToken_0_8 X σ _ _ ?_
    rw [hE]
    have := k1 (K, _, eqp none (WC G (wl (xa σ, s) 21 p 0))) X (sg_Y_readToken_8_tr X (xa σ, s) _ _ _ p (by rw [Nat.zero_add, n_le (by omega) (by omega)]; omega) rfl (by omega) ⟨rfl, rfl⟩)
    simp only [show e - p + p = e from by omega] at this
    exact this
theorem rN_tok {g : Gr} {T : Nat → Int} {e row k p q : Nat} (hp : p ≤ e) (hq : q ≤ e) (hpq : p ≤ q) (hz : 0 ≤ gY g row k) :
    rN g (Nw g T e) T e row (k + 1) p q = if p < q ∧ T (q - 1) = gY g row k then rN g (Nw g T e) T e row k p (q - 1) else 0 := by
  show sumN (fun m => rN g (Nw g T e) T e row k p m * sN (Nw g T e) T e (gY g row k) m q) (e + 1) = _
  by_cases c : p < q ∧ T (q - 1) = gY g row k
  · rw [if_pos c, sumN_one (q - 1) (by omega)]
    · unfold sN; rw [if_pos hz, if_pos ⟨by omega, c.2, by omega⟩, Nat.mul_one]
    · intro j hj hne; unfold sN; simp only [if_pos hz]; rw [if_neg (fun w => by omega), Nat.mul_zero]
  · rw [if_neg c]
    refine sumN_0 (fun m hm => ?_)
    unfold sN
    simp only [if_pos hz]
    by_cases d : m < e ∧ T m = gY g row k ∧ q = m + 1
    · by_cases e0 : rN g (Nw g T e) T e row k p m = 0
      · rw [e0, Nat.zero_mul]
      · have := (Run_bd hp (rN_Run e0)).1
        exact absurd ⟨by omega, by rw [show q - 1 = m from by omega]; exact d.2.1⟩ c
    · rw [if_neg d, Nat.mul_zero]
theorem rN_rul {g : Gr} {T : Nat → Int} {e row k p q : Nat} (hp : p ≤ e) (hz : gY g row k < 0) :
    rN g (Nw g T e) T e row (k + 1) p q = psm (rN g (Nw g T e) T e row k p) (Nw g T e (rl (gY g row k))) e p q := by
  show sumN (fun m => rN g (Nw g T e) T e row k p m * sN (Nw g T e) T e (gY g row k) m q) (e + 1) = _
  refine sumN_congr (fun m _ => ?_)
  unfold sN
  simp only [if_neg (show ¬ 0 ≤ gY g row k by omega)]
  by_cases c : p ≤ m
  · rw [if_pos c]
  · rw [if_neg c]
    by_cases e0 : rN g (Nw g T e) T e row k p m = 0
    · rw [e0, Nat.zero_mul]
    · have := (Run_bd hp (rN_Run e0)).1; omega
theorem k_YreadRow (G : GG) {g : Gr} {T : Nat → Int} {n e : Nat} {σ : St} (hw : WF g) (hg : GC g σ) (hT : WT T n) (he : e ≤ 60) (hE : xi σ 12 0 = nI e) (hI : ∀ i, i < 60 → xi σ 11 i = sI (T i)) {row p : Nat} (hr : row < 128) (hp : p ≤ e)
    (hok : ∀ k, k < gL g row → ∀ m, Run g T e row k p m → gY g row k < 0 → okW g T e σ (rl (gY g row k)) m) :
    ∃ s : Sq, ((∀ q, p ≤ q → q ≤ e → xl (xa σ, s) 21 q = nL (cp (rN g (Nw g T e) T e row (gL g row) p q))) ∧ Fr (inR 21 21) σ (xa σ, s)) ∧ Ct y_Y_readRow c_Y_readRow 5 none rm_Y_readRow G [.ref (xa σ 19), .int (nI row), .int (nI p)] (WC G σ) (eqp none (WC G (xa σ, s))) := by
  have hl := hw.l row
  obtain ⟨s0, ⟨_, a1, a2⟩, k1⟩ := iterL (α := Sq) (C := fun q : KP => Bd q.1 G q.2.1 "FirstTrees$Ways" c_Y_readRow 5 none rm_Y_readRow) (e + 1) (fun i s => p ≤ i ∧ (∀ q, p ≤ q → q < i → xl (xa σ, s) 21 q = 0) ∧ Fr (inR 21 21) σ (xa σ, s))
    (fun q i s => Lb q.1 G q.2.1 (Qe q.1 G q.2.1 q.2.2 rm_Y_readRow) 5 2 [(0, .ref (xa σ 19)), (1, .int (nI row)), (2, .int (nI p)), (3, .int (nI i))] [] (WC G (xa σ, s)) 0 0) (by
    intro i s hi ⟨a0, a1, a2⟩
    refine ⟨(wl (xa σ, s) 21 i 0).2, ⟨by omega, fun q h1 h2 => ?_, a2.l (by decide) _ _⟩, fun q X kk => ?_⟩
    · show vp_updL (xl (xa σ, s) 21) i 0 q = 0
      by_cases eq : q = i
      · rw [eq, updL_at]
      · rw [updL_ne _ _ eq]; exact a1 q h1 (by omega)
    · refine sg_Y_readRow_2_f2 X (xa σ, s) _ _ _ i (by rw [a2.ei 12 (by decide), hE, n_lt (by omega) (by omega)]; omega) rfl (by omega) ?_
      rw [n_s]; exact kk) p σ.2 (by omega) ⟨Nat.le_refl _, fun q h1 h2 => by omega, Fr.refl _ _⟩
  obtain ⟨s, ⟨b1, b2⟩, k2⟩ := iterL (α := Sq) (C := fun q : KP => Bd q.1 G q.2.1 "FirstTrees$Ways" c_Y_readRow 5 none rm_Y_readRow) (gL g row) (fun k s => (∀ q, p ≤ q → q ≤ e → xl (xa σ, s) 21 q = nL (cp (rN g (Nw g T e) T e row k p q))) ∧ Fr (inR 21 21) σ (xa σ, s))
    (fun q k s => Lb q.1 G q.2.1 (Qe q.1 G q.2.1 q.2.2 rm_Y_readRow) 5 35 [(0, .ref (xa σ 19)), (1, .int (nI row)), (2, .int (nI p)), (3, .int (nI k))] [] (WC G (xa σ, s)) 0 0) (by
    intro k s hk ⟨b1, b2⟩
    have hg' : GC g (xa σ, s) := hg.fr b2 (by decide)
    have hE' : xi (xa σ, s) 12 0 = nI e := by rw [b2.ei 12 (by decide)]; exact hE
    have hI' : ∀ i, i < 60 → xi (xa σ, s) 11 i = sI (T i) := by rw [b2.ei 11 (by decide)]; exact hI
    have hy := hw.y row k
    have ek : xi (xa σ, s) 4 (8 * row + k) = sI (gY g row k) := hg'.2.2.2 _ (by omega)
    have c44 : ¬ xi (xa σ, s) 3 row ≤ nI k := by rw [hg'.2.2.1 row hr, n_le (by omega) (by omega)]; omega
    by_cases d : gY g row k < 0
    · obtain ⟨s', ⟨c1, c2⟩, t⟩ := k_YreadRule G (g := g) (T := T) (σ := (xa σ, s)) he hE' (hw.rl row k) hp (rN g (Nw g T e) T e row k p) b1 (fun m h1 h2 hne => (hok k hk m (rN_Run hne) d).fr b2 (by decide))
      refine ⟨s', ⟨fun q h1 h2 => by rw [rN_rul hp d]; exact c1 q h1 h2, b2.trans c2⟩, fun q X kk => ?_⟩
      refine sg_Y_readRow_35_ft35 X (xa σ, s) _ _ _ row (8 * row + k) s' rfl hr c44 (n8 row k) (by omega) (by rw [ek]; exact tok_0 hy.1 hy.2 d) (by rw [ek, rl_sI d]; exact t) ?_
      rw [n_s]; exact kk
    · obtain ⟨s', ⟨c1, c2⟩, t⟩ := k_YreadToken G (T := T) (σ := (xa σ, s)) hT he hE' hI' (z := gY g row k) (by omega) hy.2 hp (rN g (Nw g T e) T e row k p) b1
      refine ⟨s', ⟨fun q h1 h2 => by rw [rN_tok hp h2 h1 (by omega)]; exact c1 q h1 h2, b2.trans c2⟩, fun q X kk => ?_⟩
      refine sg_Y_readRow_35_ff35 X (xa σ, s) _ _ _ row (8 * row + k) s' rfl hr c44 (n8 row k) (by omega) (by rw [ek, tok_1 hy.1 hy.2 d]; decide) (by rw [ek]; exact t) ?_
      rw [n_s]; exact kk) 0 (wl (xa σ, s0) 21 p 1).2 (Nat.zero_le _) ⟨fun q h1 h2 => by
        show vp_updL (xl (xa σ, s0) 21) p 1 q = nL (cp (if q = p then 1 else 0))
        by_cases eq : q = p
        · rw [eq, updL_at, if_pos rfl]; rfl
        · rw [updL_ne _ _ eq, a1 q h1 (by omega), if_neg eq]; rfl, a2.l (by decide) _ _⟩
  have hg' : GC g (xa σ, s) := hg.fr b2 (by decide)
  refine ⟨s, ⟨b1, b2⟩, ?_⟩
  refine Ct.of (by decide +kernel) (Nat.le_of_ble_eq_true rfl) (fun K X => ?_)
  refine sg_Y_readRow_0_2 X σ _ _ (k1 (K, _, _) X ?_)
  refine sg_Y_readRow_2_t35 X (xa σ, s0) _ _ _ p (by rw [a2.ei 12 (by decide), hE, n_lt (by omega) (by omega)]; omega) rfl (by omega) (k2 (K, _, _) X ?_)
  exact sg_Y_readRow_35_tr X (xa σ, s) _ _ _ row rfl hr (by rw [hg'.2.2.1 row hr, n_le (by omega) (by omega)]; omega) ⟨rfl, rfl⟩
