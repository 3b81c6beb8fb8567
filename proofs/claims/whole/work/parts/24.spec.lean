/-! the grammar as numbers; what a state holds of it -/
noncomputable def pI (P : Prop) : Int32 := @ite _ P (Classical.propDecidable P) 1 0
theorem pI_t {P : Prop} (h : P) : pI P = 1 := by unfold pI; rw [if_pos h]
theorem pI_f {P : Prop} (h : ¬ P) : pI P = 0 := by unfold pI; rw [if_neg h]
theorem pI_0 {P : Prop} : pI P = 0 ↔ ¬ P := by
  by_cases h : P
  · rw [pI_t h]; exact ⟨fun e => (by cases e), fun e => absurd h e⟩
  · rw [pI_f h]; exact ⟨fun _ => h, fun _ => rfl⟩
theorem pI_1 {P : Prop} : pI P = 1 ↔ P := by
  by_cases h : P
  · rw [pI_t h]; exact ⟨fun e => h, fun e => rfl⟩
  · rw [pI_f h]; exact ⟨fun e => (by cases e), fun e => absurd e h⟩
theorem pI_n0 {P : Prop} : ¬ pI P = 0 ↔ P := by rw [pI_0]; exact Classical.not_not
abbrev Gr : Type := Nat × (Nat → Nat) × (Nat → Nat) × (Nat → Int)
abbrev gR (g : Gr) : Nat := g.1
abbrev gA (g : Gr) : Nat → Nat := g.2.1
abbrev gL (g : Gr) : Nat → Nat := g.2.2.1
abbrev gY (g : Gr) (row k : Nat) : Int := g.2.2.2 (8 * row + k)
def WF (g : Gr) : Prop := gR g ≤ 16 ∧ (∀ r, gA g r ≤ 8) ∧ (∀ w, gL g w ≤ 8) ∧ (∀ j, -16 ≤ g.2.2.2 j ∧ g.2.2.2 j ≤ 31)
theorem WF.r {g : Gr} (h : WF g) : gR g ≤ 16 := h.1
theorem WF.a {g : Gr} (h : WF g) (r : Nat) : gA g r ≤ 8 := h.2.1 r
theorem WF.l {g : Gr} (h : WF g) (r : Nat) : gL g r ≤ 8 := h.2.2.1 r
theorem WF.y {g : Gr} (h : WF g) (r k : Nat) : -16 ≤ gY g r k ∧ gY g r k ≤ 31 := h.2.2.2 _
theorem WF.rl {g : Gr} (h : WF g) (r k : Nat) : rl (gY g r k) < 16 := by
  have := h.y r k; unfold Jvm.Pilot.CFirstTreesLaw_law_r2467_8df755.rl; omega
def GC (g : Gr) (σ : St) : Prop := xi σ 1 0 = nI (gR g) ∧ (∀ r, r < 16 → xi σ 2 r = nI (gA g r)) ∧ (∀ w, w < 128 → xi σ 3 w = nI (gL g w)) ∧ (∀ j, j < 1024 → xi σ 4 j = sI (g.2.2.2 j))
def GM (g : Gr) (τ : St) : Prop := xi τ 0 1 = nI (gR g) ∧ (∀ r, r < 16 → xi τ 1 r = nI (gA g r)) ∧ (∀ w, w < 128 → xi τ 2 w = nI (gL g w)) ∧ (∀ j, j < 1024 → xi τ 3 j = sI (g.2.2.2 j))
theorem GC.of {g : Gr} {σ σ' : St} (h : GC g σ) (e1 : xi σ' 1 = xi σ 1) (e2 : xi σ' 2 = xi σ 2) (e3 : xi σ' 3 = xi σ 3) (e4 : xi σ' 4 = xi σ 4) : GC g σ' := by
  unfold GC; rw [e1, e2, e3, e4]; exact h
theorem GM.of {g : Gr} {σ σ' : St} (h : GM g σ) (e1 : xi σ' 0 1 = xi σ 0 1) (e2 : xi σ' 1 = xi σ 1) (e3 : xi σ' 2 = xi σ 2) (e4 : xi σ' 3 = xi σ 3) : GM g σ' := by
  unfold GM; rw [e1, e2, e3, e4]; exact h
theorem wi_wi (σ : St) (k i : Nat) (v v' : Int32) : wi (wi σ k i v) k i v' = wi σ k i v' := by
  unfold wi
  congr 2
  funext j
  by_cases h : j = k
  · simp only [h, if_true]; funext n; unfold upd; by_cases h2 : n = i <;> simp [h2]
  · simp [h]
theorem wi_self (σ : St) (k i : Nat) : wi σ k i (xi σ k i) = σ := by
  unfold wi
  have : (fun j => if j = k then upd (σ.2.1 j) i (xi σ k i) else σ.2.1 j) = σ.2.1 := by
    funext j
    by_cases h : j = k
    · simp only [h, if_true]; funext n; unfold upd; by_cases h2 : n = i <;> simp [h2]
    · simp [h]
  rw [this]
/-- the alternatives that the class sees -/
theorem altC_eq {g : Gr} {σ : St} (hw : WF g) (hg : GC g σ) {r : Nat} (h : r < gR g) : altC σ r = nI (gA g r) := by
  have h16 := hw.r
  unfold altC
  rw [hg.1, if_neg (by rw [n_le (by omega) (by omega)]; omega), hg.2.1 r (by omega)]
/-! rules that can be nothing -/
/-- the row's symbols from `k` on are all of `B` -/
def rowN (g : Gr) (B : Nat → Prop) (row k : Nat) : Prop := ∀ j, k ≤ j → j < gL g row → gY g row j < 0 ∧ B (rl (gY g row j))
def ClosedN (g : Gr) (B : Nat → Prop) : Prop := ∀ x, x < gR g → ∀ a, a < gA g x → rowN g B (8 * x + a) 0 → B x
def Nul (g : Gr) (x : Nat) : Prop := ∀ B, ClosedN g B → B x
theorem rowN_mono {g : Gr} {B B' : Nat → Prop} (h : ∀ x, B x → B' x) {row k : Nat} (hr : rowN g B row k) : rowN g B' row k :=
  fun j h1 h2 => ⟨(hr j h1 h2).1, h _ (hr j h1 h2).2⟩
theorem Nul_closed (g : Gr) : ClosedN g (Nul g) := fun x hx a ha hr B hB => hB x hx a ha (rowN_mono (fun y hy => hy B hB) hr)
theorem Nul_lt {g : Gr} {x : Nat} (h : Nul g x) : x < gR g := h (fun x => x < gR g) (fun x hx _ _ _ => hx)
def cnt (f : Nat → Bool) : Nat → Nat
  | 0 => 0
  | n + 1 => cnt f n + (if f n then 1 else 0)
theorem cnt_le (f : Nat → Bool) (n : Nat) : cnt f n ≤ n := by
  induction n with
  | zero => exact Nat.le_refl _
  | succ n ih => simp only [cnt]; split <;> omega
theorem cnt_mono {f f' : Nat → Bool} (h : ∀ i, f i = true → f' i = true) (n : Nat) : cnt f n ≤ cnt f' n := by
  induction n with
  | zero => exact Nat.le_refl _
  | succ n ih =>
    simp only [cnt]
    by_cases e : f n = true
    · rw [if_pos e, if_pos (h n e)]; omega
    · rw [if_neg e]; split <;> omega
theorem cnt_lt {f f' : Nat → Bool} (h : ∀ i, f i = true → f' i = true) {i n : Nat} (hi : i < n) (h1 : f i = false) (h2 : f' i = true) : cnt f n < cnt f' n := by
  induction n with
  | zero => omega
  | succ n ih =>
    simp only [cnt]
    by_cases e : i = n
    · subst e
      have := cnt_mono h i
      rw [h1, h2]; simp; omega
    · have := ih (by omega)
      by_cases e : f n = true
      · rw [if_pos e, if_pos (h n e)]; omega
      · rw [if_neg e]; split <;> omega
theorem cnt_full {f : Nat → Bool} {n : Nat} (h : n ≤ cnt f n) : ∀ i, i < n → f i = true := by
  induction n with
  | zero => intro i hi; omega
  | succ n ih =>
    simp only [cnt] at h
    have h1 := cnt_le f n
    by_cases e : f n = true
    · rw [if_pos e] at h
      intro i hi
      by_cases q : i = n
      · rw [q]; exact e
      · exact ih (by omega) i (by omega)
    · rw [if_neg e] at h; omega
/-- a pass over all rows: from the set B0, now at B, the rows of D handled -/
def PassN (g : Gr) (B0 B : Nat → Bool) (D : Nat → Nat → Prop) : Prop :=
  (∀ x, B0 x = true → B x = true) ∧ (∀ x, B x = true → Nul g x) ∧ ((∀ x, B x = true → B0 x = true) → ∀ x a, D x a → rowN g (fun y => B y = true) (8 * x + a) 0 → B x = true)
theorem PassN.start {g : Gr} {B : Nat → Bool} (h : ∀ x, B x = true → Nul g x) : PassN g B B (fun _ _ => False) := ⟨fun _ h => h, h, fun _ _ _ h => h.elim⟩
theorem PassN.step {g : Gr} {B0 B B' : Nat → Bool} {D : Nat → Nat → Prop} (h : PassN g B0 B D) {x a : Nat} (hx : x < gR g) (ha : a < gA g x)
    (h1 : ∀ y, B' y = true ↔ (B y = true ∨ (y = x ∧ rowN g (fun y => B y = true) (8 * x + a) 0))) : PassN g B0 B' (fun y b => D y b ∨ (y = x ∧ b = a)) := by
  obtain ⟨p1, p2, p3⟩ := h
  refine ⟨fun y hy => (h1 y).mpr (.inl (p1 y hy)), ?_, ?_⟩
  · intro y hy
    rcases (h1 y).mp hy with q | ⟨rfl, q⟩
    · exact p2 y q
    · exact Nul_closed g y hx a ha (rowN_mono p2 q)
  · intro e y b hD hr
    have e1 : ∀ z, B' z = true ↔ B z = true := fun z => ⟨fun q => p1 z (e z q), fun q => (h1 z).mpr (.inl q)⟩
    have hr' : rowN g (fun y => B y = true) (8 * y + b) 0 := rowN_mono (fun z hz => (e1 z).mp hz) hr
    rcases hD with q | ⟨rfl, rfl⟩
    · exact (e1 y).mpr (p3 (fun z hz => e z ((e1 z).mpr hz)) y b q hr')
    · exact (h1 y).mpr (.inr ⟨rfl, hr'⟩)
theorem PassN.mono {g : Gr} {B0 B : Nat → Bool} {D D' : Nat → Nat → Prop} (h : PassN g B0 B D) (hd : ∀ x a, D' x a → D x a) : PassN g B0 B D' := ⟨h.1, h.2.1, fun e x a q => h.2.2 e x a (hd x a q)⟩
theorem PassN.fin {g : Gr} {B0 B : Nat → Bool} {D : Nat → Nat → Prop} (h : PassN g B0 B D) (hd : ∀ x a, x < gR g → a < gA g x → D x a) (e : ∀ x, B x = true → B0 x = true) : ClosedN g (fun x => B x = true) :=
  fun x hx a ha hr => h.2.2 e x a (hd x a hx ha) hr
theorem PassN.cnt {g : Gr} {B0 B : Nat → Bool} {D : Nat → Nat → Prop} (h : PassN g B0 B D) (e : ¬ ∀ x, B x = true → B0 x = true) : Jvm.Pilot.CFirstTreesLaw_law_r2467_8df755.cnt B0 (gR g) < Jvm.Pilot.CFirstTreesLaw_law_r2467_8df755.cnt B (gR g) := by
  have : ∃ x, B x = true ∧ ¬ B0 x = true := Classical.byContradiction (fun q => e (fun x hx => Classical.byContradiction (fun q2 => q ⟨x, hx, q2⟩)))
  obtain ⟨x, h1, h2⟩ := this
  exact cnt_lt h.1 (Nul_lt (h.2.1 x h1)) (by simpa using h2) h1
theorem Nul_iff {g : Gr} {B : Nat → Bool} (h1 : ∀ x, B x = true → Nul g x) (h2 : ClosedN g (fun x => B x = true)) (x : Nat) : B x = true ↔ Nul g x := ⟨h1 x, fun h => h _ h2⟩
/-! whole cells; loops -/
def si (σ : St) (k : Nat) (f : Nat → Int32) : St := (σ.1, (fun j => if j = k then f else σ.2.1 j), σ.2.2)
def sl (σ : St) (k : Nat) (f : Nat → Int64) : St := (σ.1, σ.2.1, (fun j => if j = k then f else σ.2.2.1 j), σ.2.2.2)
theorem xi_si (σ : St) (k : Nat) (f : Nat → Int32) : xi (si σ k f) k = f := by show (if k = k then f else _) = f; rw [if_pos rfl]
theorem xl_sl (σ : St) (k : Nat) (f : Nat → Int64) : xl (sl σ k f) k = f := by show (if k = k then f else _) = f; rw [if_pos rfl]
theorem wi_eq (σ : St) (k i : Nat) (v : Int32) : wi σ k i v = si σ k (upd (xi σ k) i v) := by
  unfold wi si
  congr 2
  funext j
  by_cases h : j = k
  · simp only [h, if_true]
  · simp [h]
theorem wl_eq (σ : St) (k i : Nat) (v : Int64) : wl σ k i v = sl σ k (vp_updL (xl σ k) i v) := by
  unfold wl sl
  congr 3
  funext j
  by_cases h : j = k
  · simp only [h, if_true]
  · simp [h]
theorem si_si (σ : St) (k : Nat) (f f' : Nat → Int32) : si (si σ k f) k f' = si σ k f' := by
  unfold si
  congr 2
  funext j
  by_cases h : j = k <;> simp [h]
theorem sl_sl (σ : St) (k : Nat) (f f' : Nat → Int64) : sl (sl σ k f) k f' = sl σ k f' := by
  unfold sl
  congr 3
  funext j
  by_cases h : j = k <;> simp [h]
theorem si_id (σ : St) (k : Nat) : si σ k (xi σ k) = σ := by
  unfold si
  have : (fun j => if j = k then xi σ k else σ.2.1 j) = σ.2.1 := by
    funext j
    by_cases h : j = k <;> simp [h]
  rw [this]
theorem sl_id (σ : St) (k : Nat) : sl σ k (xl σ k) = σ := by
  unfold sl
  have : (fun j => if j = k then xl σ k else σ.2.2.1 j) = σ.2.2.1 := by
    funext j
    by_cases h : j = k <;> simp [h]
  rw [this]
theorem wi_si (σ : St) (k : Nat) (f : Nat → Int32) (i : Nat) (v : Int32) : wi (si σ k f) k i v = si σ k (upd f i v) := by rw [wi_eq, si_si, xi_si]
theorem wl_sl (σ : St) (k : Nat) (f : Nat → Int64) (i : Nat) (v : Int64) : wl (sl σ k f) k i v = sl σ k (vp_updL f i v) := by rw [wl_eq, sl_sl, xl_sl]
theorem upd_at (f : Nat → Int32) (i : Nat) (v : Int32) : upd f i v i = v := by unfold upd; rw [if_pos rfl]
theorem upd_ne (f : Nat → Int32) {i j : Nat} (v : Int32) (h : j ≠ i) : upd f i v j = f j := by unfold upd; rw [if_neg h]
theorem updL_at (f : Nat → Int64) (i : Nat) (v : Int64) : vp_updL f i v i = v := by unfold vp_updL; rw [if_pos rfl]
theorem updL_ne (f : Nat → Int64) {i j : Nat} (v : Int64) (h : j ≠ i) : vp_updL f i v j = f j := by unfold vp_updL; rw [if_neg h]
theorem iterL {α κ : Type} {C : κ → Prop} (N : Nat) (I : Nat → α → Prop) (H : κ → Nat → α → Prop)
    (st : ∀ i a, i < N → I i a → ∃ a', I (i + 1) a' ∧ ∀ q, C q → H q (i + 1) a' → H q i a) (i : Nat) (a : α) (hi : i ≤ N) (h : I i a) : ∃ a', I N a' ∧ ∀ q, C q → H q N a' → H q i a := by
  obtain ⟨m, hm⟩ : ∃ m, i + m = N := ⟨N - i, by omega⟩
  induction m generalizing i a with
  | zero =>
    have : i = N := by omega
    subst this
    exact ⟨a, h, fun q _ k => k⟩
  | succ m ih =>
    obtain ⟨a1, h1, k1⟩ := st i a (by omega) h
    obtain ⟨a2, h2, k2⟩ := ih (i + 1) a1 (by omega) h1 (by omega)
    exact ⟨a2, h2, fun q hq k => k1 q hq (k2 q hq k)⟩
abbrev KQ : Type := KX × va_W × (State → Prop)
theorem m8 (a b : Nat) : 8 * nI a + nI b = nI (8 * a + b) := by
  rw [show (8 : Int32) = nI 8 from rfl, n_mul, n_add]
theorem m64 (a b c : Nat) : 64 * nI a + 8 * nI b + nI c = nI (8 * (8 * a + b) + c) := by
  rw [show (8 : Int32) = nI 8 from rfl, show (64 : Int32) = nI 64 from rfl, n_mul, n_mul, n_add, n_add]; congr 1; omega
theorem isr_1 {z : Int} (h1 : -16 ≤ z) (h2 : z ≤ 31) (h : z < 0) : b2i (decide (sI z < (0 : Int32))) = 1 := b2i_t ((z_lt (by omega) (by omega)).mpr (by omega))
theorem isr_0 {z : Int} (h1 : -16 ≤ z) (h2 : z ≤ 31) (h : ¬ z < 0) : b2i (decide (sI z < (0 : Int32))) = 0 := b2i_f (fun q => by have := (z_lt (by omega) (by omega)).mp q; omega)
