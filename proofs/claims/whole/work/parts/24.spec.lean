/-! the grammar as numbers; what a state holds of it -/
noncomputable def pI (P : Prop) : Int32 := @ite _ P (Classical.propDecidable P) 1 0
theorem pI_t {P : Prop} (h : P) : pI P = 1 := by unfold pI; rw [if_pos h]
theorem pI_f {P : Prop} (h : ¬ P) : pI P = 0 := by unfold pI; rw [if_neg h]
theorem pI_0 {P : Prop} : pI P = 0 ↔ ¬ P := by
  by_cases h : P
  · rw [pI_t h]; exact ⟨fun e => (by cases e), fun e => absurd h e⟩
  · rw [pI_f h]; exact ⟨fun _ => h, fun _ => rfl⟩
theorem pI_1 {P : Prop} : pI P = 1 ↔ P := by
  by_cases h : P
  · rw [pI_t h]; exact ⟨fun e => h, fun e => rfl⟩
  · rw [pI_f h]; exact ⟨fun e => (by cases e), fun e => absurd e h⟩
theorem pI_n0 {P : Prop} : ¬ pI P = 0 ↔ P := by rw [pI_0]; exact Classical.not_not
abbrev Gr : Type := Nat × (Nat → Nat) × (Nat → Nat) × (Nat → Int)
abbrev gR (g : Gr) : Nat := g.1
abbrev gA (g : Gr) : Nat → Nat := g.2.1
abbrev gL (g : Gr) : Nat → Nat := g.2.2.1
abbrev gY (g : Gr) (row k : Nat) : Int := g.2.2.2 (8 * row + k)
def WF (g : Gr) : Prop := gR g ≤ 16 ∧ (∀ r, gA g r ≤ 8) ∧ (∀ w, gL g w ≤ 8) ∧ (∀ j, -16 ≤ g.2.2.2 j ∧ g.2.2.2 j ≤ 31)
theorem WF.r {g : Gr} (h : WF g) : gR g ≤ 16 := h.1
theorem WF.a {g : Gr} (h : WF g) (r : Nat) : gA g r ≤ 8 := h.2.1 r
theorem WF.l {g : Gr} (h : WF g) (r : Nat) : gL g r ≤ 8 := h.2.2.1 r
theorem WF.y {g : Gr} (h : WF g) (r k : Nat) : -16 ≤ gY g r k ∧ gY g r k ≤ 31 := h.2.2.2 _
theorem WF.rl {g : Gr} (h : WF g) (r k : Nat) : rl (gY g r k) < 16 := by
  have := h.y r k; unfold Jvm.Pilot.CFirstTreesLaw_law_r2467_8df755.rl; omega
def GC (g : Gr) (σ : St) : Prop := xi σ 1 0 = nI (gR g) ∧ (∀ r, r < 16 → xi σ 2 r = nI (gA g r)) ∧ (∀ w, w < 128 → xi σ 3 w = nI (gL g w)) ∧ (∀ j, j < 1024 → xi σ 4 j = sI (g.2.2.2 j))
def GM (g : Gr) (τ : St) : Prop := xi τ 0 1 = nI (gR g) ∧ (∀ r, r < 16 → xi τ 1 r = nI (gA g r)) ∧ (∀ w, w < 128 → xi τ 2 w = nI (gL g w)) ∧ (∀ j, j < 1024 → xi τ 3 j = sI (g.2.2.2 j))
theorem GC.of {g : Gr} {σ σ' : St} (h : GC g σ) (e1 : xi σ' 1 = xi σ 1) (e2 : xi σ' 2 = xi σ 2) (e3 : xi σ' 3 = xi σ 3) (e4 : xi σ' 4 = xi σ 4) : GC g σ' := by
  unfold GC; rw [e1, e2, e3, e4]; exact h
theorem GM.of {g : Gr} {σ σ' : St} (h : GM g σ) (e1 : xi σ' 0 1 = xi σ 0 1) (e2 : xi σ' 1 = xi σ 1) (e3 : xi σ' 2 = xi σ 2) (e4 : xi σ' 3 = xi σ 3) : GM g σ' := by
  unfold GM; rw [e1, e2, e3, e4]; exact h
theorem wi_wi (σ : St) (k i : Nat) (v v' : Int32) : wi (wi σ k i v) k i v' = wi σ k i v' := by
  unfold wi
  congr 2
  funext j
  by_cases h : j = k
  · simp only [h, if_true]; funext n; unfold upd; by_cases h2 : n = i <;> simp [h2]
  · simp [h]
theorem wi_self (σ : St) (k i : Nat) : wi σ k i (xi σ k i) = σ := by
  unfold wi
  have : (fun j => if j = k then upd (σ.2.1 j) i (xi σ k i) else σ.2.1 j) = σ.2.1 := by
    funext j
    by_cases h : j = k
    · simp only [h, if_true]; funext n; unfold upd; by_cases h2 : n = i <;> simp [h2]
    · simp [h]
  rw [this]
/-- the alternatives that the component sees -/
theorem altC_eq {g : Gr} {σ : St} (hw : WF g) (hg : GC g σ) {r : Nat} (h : r < gR g) : altC σ r = nI (gA g r) := by
  have h16 := hw.r
  unfold altC
  rw [hg.1, if_neg (by rw [n_le (by omega) (by omega)]; omega), hg.2.1 r (by omega)]
/-! rules that can be nothing -/
/-- the row's symbols from `k` on are all of `B` -/
def rowN (g : Gr) (B : Nat → Prop) (row k : Nat) : Prop := ∀ j, k ≤ j → j < gL g row → gY g row j < 0 ∧ B (rl (gY g row j))
def ClosedN (g : Gr) (B : Nat → Prop) : Prop := ∀ x, x < gR g → ∀ a, a < gA g x → rowN g B (8 * x + a) 0 → B x
def Nul (g : Gr) (x : Nat) : Prop := ∀ B, ClosedN g B → B x
theorem rowN_mono {g : Gr} {B B' : Nat → Prop} (h : ∀ x, B x → B' x) {row k : Nat} (hr : rowN g B row k) : rowN g B' row k :=
  fun j h1 h2 => ⟨(hr j h1 h2).1, h _ (hr j h1 h2).2⟩
theorem Nul_closed (g : Gr) : ClosedN g (Nul g) := fun x hx a ha hr B hB => hB x hx a ha (rowN_mono (fun y hy => hy B hB) hr)
theorem Nul_lt {g : Gr} {x : Nat} (h : Nul g x) : x < gR g := h (fun x => x < gR g) (fun x hx _ _ _ => hx)
def cnt (f : Nat → Bool) : Nat → Nat
  | 0 => 0
  | n + 1 => cnt f n + (if f n then 1 else 0)
theorem cnt_le (f : Nat → Bool) (n : Nat) : cnt f n ≤ n := by
  induction n with
  | zero => exact Nat.le_refl _
  | succ n ih => simp only [cnt]; split <;> omega
theorem cnt_mono {f f' : Nat → Bool} (h : ∀ i, f i = true → f' i = true) (n : Nat) : cnt f n ≤ cnt f' n := by
  induction n with
  | zero => exact Nat.le_refl _
  | succ n ih =>
    simp only [cnt]
    by_cases e : f n = true
    · rw [if_pos e, if_pos (h n e)]; omega
    · rw [if_neg e]; split <;> omega
theorem cnt_lt {f f' : Nat → Bool} (h : ∀ i, f i = true → f' i = true) {i n : Nat} (hi : i < n) (h1 : f i = false) (h2 : f' i = true) : cnt f n < cnt f' n := by
  induction n with
  | zero => omega
  | succ n ih =>
    simp only [cnt]
    by_cases e : i = n
    · subst e
      have := cnt_mono h i
      rw [h1, h2]; simp; omega
    · have := ih (by omega)
      by_cases e : f n = true
      · rw [if_pos e, if_pos (h n e)]; omega
      · rw [if_neg e]; split <;> omega
theorem cnt_full {f : Nat → Bool} {n : Nat} (h : n ≤ cnt f n) : ∀ i, i < n → f i = true := by
  induction n with
  | zero => intro i hi; omega
  | succ n ih =>
    simp only [cnt] at h
    have h1 := cnt_le f n
    by_cases e : f n = true
    · rw [if_pos e] at h
      intro i hi
      by_cases q : i = n
      · rw [q]; exact e
      · exact ih (by omega) i (by omega)
    · rw [if_neg e] at h; omega
/-- a pass over all rows: from the set B0, now at B, the rows of D handled -/
def PassN (g : Gr) (B0 B : Nat → Bool) (D : Nat → Nat → Prop) : Prop :=
  (∀ x, B0 x = true → B x = true) ∧ (∀ x, B x = true → Nul g x) ∧ ((∀ x, B x = true → B0 x = true) → ∀ x a, D x a → rowN g (fun y => B y = true) (8 * x + a) 0 → B x = true)
theorem PassN.start {g : Gr} {B : Nat → Bool} (h : ∀ x, B x = true → Nul g x) : PassN g B B (fun _ _ => False) := ⟨fun _ h => h, h, fun _ _ _ h => h.elim⟩
theorem PassN.step {g : Gr} {B0 B B' : Nat → Bool} {D : Nat → Nat → Prop} (h : PassN g B0 B D) {x a : Nat} (hx : x < gR g) (ha : a < gA g x)
    (h1 : ∀ y, B' y = true ↔ (B y = true ∨ (y = x ∧ rowN g (fun y => B y = true) (8 * x + a) 0))) : PassN g B0 B' (fun y b => D y b ∨ (y = x ∧ b = a)) := by
  obtain ⟨p1, p2, p3⟩ := h
  refine ⟨fun y hy => (h1 y).mpr (.inl (p1 y hy)), ?_, ?_⟩
  · intro y hy
    rcases (h1 y).mp hy with q | ⟨rfl, q⟩
    · exact p2 y q
    · exact Nul_closed g y hx a ha (rowN_mono p2 q)
  · intro e y b hD hr
    have e1 : ∀ z, B' z = true ↔ B z = true := fun z => ⟨fun q => p1 z (e z q), fun q => (h1 z).mpr (.inl q)⟩
    have hr' : rowN g (fun y => B y = true) (8 * y + b) 0 := rowN_mono (fun z hz => (e1 z).mp hz) hr
    rcases hD with q | ⟨rfl, rfl⟩
    · exact (e1 y).mpr (p3 (fun z hz => e z ((e1 z).mpr hz)) y b q hr')
    · exact (h1 y).mpr (.inr ⟨rfl, hr'⟩)
theorem PassN.mono {g : Gr} {B0 B : Nat → Bool} {D D' : Nat → Nat → Prop} (h : PassN g B0 B D) (hd : ∀ x a, D' x a → D x a) : PassN g B0 B D' := ⟨h.1, h.2.1, fun e x a q => h.2.2 e x a (hd x a q)⟩
theorem PassN.fin {g : Gr} {B0 B : Nat → Bool} {D : Nat → Nat → Prop} (h : PassN g B0 B D) (hd : ∀ x a, x < gR g → a < gA g x → D x a) (e : ∀ x, B x = true → B0 x = true) : ClosedN g (fun x => B x = true) :=
  fun x hx a ha hr => h.2.2 e x a (hd x a hx ha) hr
theorem PassN.cnt {g : Gr} {B0 B : Nat → Bool} {D : Nat → Nat → Prop} (h : PassN g B0 B D) (e : ¬ ∀ x, B x = true → B0 x = true) : Jvm.Pilot.CFirstTreesLaw_law_r2467_8df755.cnt B0 (gR g) < Jvm.Pilot.CFirstTreesLaw_law_r2467_8df755.cnt B (gR g) := by
  have : ∃ x, B x = true ∧ ¬ B0 x = true := Classical.byContradiction (fun q => e (fun x hx => Classical.byContradiction (fun q2 => q ⟨x, hx, q2⟩)))
  obtain ⟨x, h1, h2⟩ := this
  exact cnt_lt h.1 (Nul_lt (h.2.1 x h1)) (by simpa using h2) h1
theorem Nul_iff {g : Gr} {B : Nat → Bool} (h1 : ∀ x, B x = true → Nul g x) (h2 : ClosedN g (fun x => B x = true)) (x : Nat) : B x = true ↔ Nul g x := ⟨h1 x, fun h => h _ h2⟩
/-! whole cells; loops -/
def si (σ : St) (k : Nat) (f : Nat → Int32) : St := (σ.1, (fun j => if j = k then f else σ.2.1 j), σ.2.2)
def sl (σ : St) (k : Nat) (f : Nat → Int64) : St := (σ.1, σ.2.1, (fun j => if j = k then f else σ.2.2.1 j), σ.2.2.2)
theorem xi_si (σ : St) (k : Nat) (f : Nat → Int32) : xi (si σ k f) k = f := by show (if k = k then f else _) = f; rw [if_pos rfl]
theorem xl_sl (σ : St) (k : Nat) (f : Nat → Int64) : xl (sl σ k f) k = f := by show (if k = k then f else _) = f; rw [if_pos rfl]
theorem wi_eq (σ : St) (k i : Nat) (v : Int32) : wi σ k i v = si σ k (upd (xi σ k) i v) := by
  unfold wi si
  congr 2
  funext j
  by_cases h : j = k
  · simp only [h, if_true]
  · simp [h]
theorem wl_eq (σ : St) (k i : Nat) (v : Int64) : wl σ k i v = sl σ k (vp_updL (xl σ k) i v) := by
  unfold wl sl
  congr 3
  funext j
  by_cases h : j = k
  · simp only [h, if_true]
  · simp [h]
theorem si_si (σ : St) (k : Nat) (f f' : Nat → Int32) : si (si σ k f) k f' = si σ k f' := by
  unfold si
  congr 2
  funext j
  by_cases h : j = k <;> simp [h]
theorem sl_sl (σ : St) (k : Nat) (f f' : Nat → Int64) : sl (sl σ k f) k f' = sl σ k f' := by
  unfold sl
  congr 3
  funext j
  by_cases h : j = k <;> simp [h]
theorem si_id (σ : St) (k : Nat) : si σ k (xi σ k) = σ := by
  unfold si
  have : (fun j => if j = k then xi σ k else σ.2.1 j) = σ.2.1 := by
    funext j
    by_cases h : j = k <;> simp [h]
  rw [this]
theorem sl_id (σ : St) (k : Nat) : sl σ k (xl σ k) = σ := by
  unfold sl
  have : (fun j => if j = k then xl σ k else σ.2.2.1 j) = σ.2.2.1 := by
    funext j
    by_cases h : j = k <;> simp [h]
  rw [this]
theorem wi_si (σ : St) (k : Nat) (f : Nat → Int32) (i : Nat) (v : Int32) : wi (si σ k f) k i v = si σ k (upd f i v) := by rw [wi_eq, si_si, xi_si]
theorem wl_sl (σ : St) (k : Nat) (f : Nat → Int64) (i : Nat) (v : Int64) : wl (sl σ k f) k i v = sl σ k (vp_updL f i v) := by rw [wl_eq, sl_sl, xl_sl]
theorem upd_at (f : Nat → Int32) (i : Nat) (v : Int32) : upd f i v i = v := by unfold upd; rw [if_pos rfl]
theorem upd_ne (f : Nat → Int32) {i j : Nat} (v : Int32) (h : j ≠ i) : upd f i v j = f j := by unfold upd; rw [if_neg h]
theorem updL_at (f : Nat → Int64) (i : Nat) (v : Int64) : vp_updL f i v i = v := by unfold vp_updL; rw [if_pos rfl]
theorem updL_ne (f : Nat → Int64) {i j : Nat} (v : Int64) (h : j ≠ i) : vp_updL f i v j = f j := by unfold vp_updL; rw [if_neg h]
theorem iterL {α κ : Type} {C : κ → Prop} (N : Nat) (I : Nat → α → Prop) (H : κ → Nat → α → Prop)
    (st : ∀ i a, i < N → I i a → ∃ a', I (i + 1) a' ∧ ∀ q, C q → H q (i + 1) a' → H q i a) (i : Nat) (a : α) (hi : i ≤ N) (h : I i a) : ∃ a', I N a' ∧ ∀ q, C q → H q N a' → H q i a := by
  obtain ⟨m, hm⟩ : ∃ m, i + m = N := ⟨N - i, by omega⟩
  induction m generalizing i a with
  | zero =>
    have : i = N := by omega
    subst this
    exact ⟨a, h, fun q _ k => k⟩
  | succ m ih =>
    obtain ⟨a1, h1, k1⟩ := st i a (by omega) h
    obtain ⟨a2, h2, k2⟩ := ih (i + 1) a1 (by omega) h1 (by omega)
    exact ⟨a2, h2, fun q hq k => k1 q hq (k2 q hq k)⟩
abbrev KQ : Type := KX × va_W × (State → Prop)
theorem m8 (a b : Nat) : 8 * nI a + nI b = nI (8 * a + b) := by
  rw [show (8 : Int32) = nI 8 from rfl, n_mul, n_add]
theorem m64 (a b c : Nat) : 64 * nI a + 8 * nI b + nI c = nI (8 * (8 * a + b) + c) := by
  rw [show (8 : Int32) = nI 8 from rfl, show (64 : Int32) = nI 64 from rfl, n_mul, n_mul, n_add, n_add]; congr 1; omega
theorem isr_1 {z : Int} (h1 : -16 ≤ z) (h2 : z ≤ 31) (h : z < 0) : b2i (decide (sI z < (0 : Int32))) = 1 := b2i_t ((z_lt (by omega) (by omega)).mpr (by omega))
theorem isr_0 {z : Int} (h1 : -16 ≤ z) (h2 : z ≤ 31) (h : ¬ z < 0) : b2i (decide (sI z < (0 : Int32))) = 0 := b2i_f (fun q => by have := (z_lt (by omega) (by omega)).mp q; omega)
theorem iterE {α β κ : Type} {C : κ → Prop} (N : Nat) (I : Nat → α → Prop) (H : κ → Nat → α → Prop) (P : β → Prop) (F : κ → β → Prop)
    (st : ∀ i a, i < N → I i a → (∃ b, P b ∧ ∀ q, C q → F q b → H q i a) ∨ (∃ a', I (i + 1) a' ∧ ∀ q, C q → H q (i + 1) a' → H q i a))
    (en : ∀ a, I N a → ∃ b, P b ∧ ∀ q, C q → F q b → H q N a) (i : Nat) (a : α) (hi : i ≤ N) (h : I i a) : ∃ b, P b ∧ ∀ q, C q → F q b → H q i a := by
  obtain ⟨m, hm⟩ : ∃ m, i + m = N := ⟨N - i, by omega⟩
  induction m generalizing i a with
  | zero =>
    have : i = N := by omega
    subst this
    exact en a h
  | succ m ih =>
    rcases st i a (by omega) h with ⟨b, h1, k1⟩ | ⟨a1, h1, k1⟩
    · exact ⟨b, h1, k1⟩
    · obtain ⟨b, h2, k2⟩ := ih (i + 1) a1 (by omega) h1 (by omega)
      exact ⟨b, h2, fun q hq k => k1 q hq (k2 q hq k)⟩
abbrev KP : Type := KX × va_W × PostT
/-! rules at the left -/
def nulS (g : Gr) (z : Int) : Prop := z < 0 ∧ Nul g (rl z)
def atL (g : Gr) (row y : Nat) : Prop := ∃ k, k < gL g row ∧ gY g row k < 0 ∧ rl (gY g row k) = y ∧ ∀ j, j < k → nulS g (gY g row j)
def Lf0 (g : Gr) (x y : Nat) : Prop := ∃ a, a < gA g x ∧ atL g (8 * x + a) y
def Wl (g : Gr) : Nat → Nat → Nat → Prop
  | 0 => Lf0 g
  | z + 1 => fun x y => Wl g z x y ∨ (Wl g z x z ∧ Wl g z z y)
def Lf (g : Gr) (x y : Nat) : Prop := Wl g (gR g) x y
theorem Wl_col {g : Gr} {z x : Nat} : Wl g (z + 1) x z ↔ Wl g z x z := ⟨fun h => h.elim id (fun h => h.1), .inl⟩
theorem Wl_row {g : Gr} {z y : Nat} : Wl g (z + 1) z y ↔ Wl g z z y := ⟨fun h => h.elim id (fun h => h.2), .inl⟩
theorem Wl_trans {g : Gr} (z : Nat) : ∀ x w y, w < z → Wl g z x w → Wl g z w y → Wl g z x y := by
  induction z with
  | zero => intro x w y h; omega
  | succ z ih =>
    intro x w y hw h1 h2
    by_cases e : w = z
    · subst e
      exact .inr ⟨Wl_col.mp h1, Wl_row.mp h2⟩
    · have hlt : w < z := by omega
      rcases h1 with h1 | ⟨h1, h1'⟩ <;> rcases h2 with h2 | ⟨h2, h2'⟩
      · exact .inl (ih x w y hlt h1 h2)
      · exact .inr ⟨ih x w z hlt h1 h2, h2'⟩
      · exact .inr ⟨h1, ih z w y hlt h1' h2⟩
      · exact .inr ⟨h1, h2'⟩
theorem Wl_mono {g : Gr} {z x y : Nat} (d : Nat) (h : Wl g z x y) : Wl g (z + d) x y := by
  induction d with
  | zero => exact h
  | succ d ih => exact .inl ih
theorem Lf_of {g : Gr} {x y : Nat} (h : Lf0 g x y) : Lf g x y := by
  have := Wl_mono (z := 0) (gR g) h
  rw [Nat.zero_add] at this
  exact this
theorem iterD {α κ : Type} {C : κ → Prop} (I : Nat → α → Prop) (H : κ → Nat → α → Prop) (N : Nat)
    (st : ∀ i a, i < N → I (i + 1) a → ∃ a', I i a' ∧ ∀ q, C q → H q i a' → H q (i + 1) a) (i : Nat) (a : α) (hi : i ≤ N) (h : I i a) : ∃ a', I 0 a' ∧ ∀ q, C q → H q 0 a' → H q i a := by
  induction i generalizing a with
  | zero => exact ⟨a, h, fun q _ k => k⟩
  | succ i ih =>
    obtain ⟨a1, h1, k1⟩ := st i a (by omega) h
    obtain ⟨a2, h2, k2⟩ := ih a1 (by omega) h1
    exact ⟨a2, h2, fun q hq k => k1 q hq (k2 q hq k)⟩
def dI (i : Nat) : Int32 := sI ((i : Int) - 1)
theorem dI_s (i : Nat) : dI (i + 1) = nI i := by unfold dI; rw [nI_sI]; congr 1; omega
theorem dI_m (i : Nat) : nI i + (-1) = dI i := by unfold dI; rw [nI_sI, show (-1 : Int32) = sI (-1) from rfl, sI_add]; congr 1
theorem dI_n (i : Nat) : nI i - 1 = dI i := by unfold dI; rw [nI_sI, show (1 : Int32) = sI 1 from rfl, sI_sub]
theorem dI_0 : dI 0 < 0 := by decide
theorem dI_nn {i : Nat} (h : i < 2147483648) : ¬ nI i < 0 := nI_pos (by omega)
theorem m16 (a b : Nat) : 16 * nI a + nI b = nI (16 * a + b) := by
  rw [show (16 : Int32) = nI 16 from rfl, n_mul, n_add]
theorem m17 (a : Nat) : 17 * nI a = nI (17 * a) := by
  rw [show (17 : Int32) = nI 17 from rfl, n_mul]
theorem m16s (a : Nat) {z : Int} (h : z < 0) : 16 * nI a - 1 - sI z = nI (16 * a + rl z) := by
  rw [show (16 : Int32) = sI 16 from rfl, show (1 : Int32) = sI 1 from rfl, nI_sI, sI_mul, sI_sub, sI_sub, nI_sI]; congr 1; unfold rl; omega
/-! faults -/
def F2 (g : Gr) (x : Nat) : Prop := ∃ a, a < gA g x ∧ ∃ k, k < gL g (8 * x + a) ∧ gY g (8 * x + a) k < -(gR g : Int)
def F3 (g : Gr) (x : Nat) : Prop := gA g x = 0
def F4 (g : Gr) (x : Nat) : Prop := Lf g x x
def Low (P : Nat → Prop) (i R : Nat) (v : Int) : Prop := (v = -1 ∧ ∀ x, i ≤ x → x < R → ¬ P x) ∨ (∃ x : Nat, v = x ∧ i ≤ x ∧ x < R ∧ P x ∧ ∀ y, i ≤ y → y < x → ¬ P y)
theorem Low.start (P : Nat → Prop) (R : Nat) : Low P R R (-1) := .inl ⟨rfl, fun x h1 h2 => by omega⟩
theorem Low.yes {P : Nat → Prop} {i R : Nat} (hi : i < R) (hP : P i) : Low P i R i := .inr ⟨i, rfl, by omega, hi, hP, fun y h1 h2 => by omega⟩
theorem Low.no {P : Nat → Prop} {i R : Nat} {v : Int} (h : Low P (i + 1) R v) (hP : ¬ P i) : Low P i R v := by
  rcases h with ⟨h1, h2⟩ | ⟨x, h1, h2, h3, h4, h5⟩
  · refine .inl ⟨h1, fun x a b => ?_⟩
    by_cases e : x = i
    · rw [e]; exact hP
    · exact h2 x (by omega) b
  · refine .inr ⟨x, h1, by omega, h3, h4, fun y a b => ?_⟩
    by_cases e : y = i
    · rw [e]; exact hP
    · exact h5 y (by omega) b
theorem Low.neg {P : Nat → Prop} {R : Nat} {v : Int} (h : Low P 0 R v) : v < 0 ↔ ∀ x, x < R → ¬ P x := by
  rcases h with ⟨h1, h2⟩ | ⟨x, h1, h2, h3, h4, h5⟩
  · exact ⟨fun _ x hx => h2 x (by omega) hx, fun _ => by omega⟩
  · exact ⟨fun q => by omega, fun q => absurd h4 (q x h3)⟩
theorem Low.bd {P : Nat → Prop} {i R : Nat} {v : Int} (h : Low P i R v) : -1 ≤ v ∧ v ≤ R := by
  rcases h with ⟨h1, h2⟩ | ⟨x, h1, h2, h3, h4, h5⟩ <;> omega
theorem Low.uniq {P : Nat → Prop} {i R : Nat} {v v' : Int} (h : Low P i R v) (h' : Low P i R v') : v = v' := by
  rcases h with ⟨h1, h2⟩ | ⟨x, h1, h2, h3, h4, h5⟩ <;> rcases h' with ⟨k1, k2⟩ | ⟨y, k1, k2, k3, k4, k5⟩
  · omega
  · exact absurd k4 (h2 y k2 k3)
  · exact absurd h4 (k2 x h2 h3)
  · have : ¬ x < y := fun q => k5 x h2 q h4
    have : ¬ y < x := fun q => h5 y k2 q k4
    omega
def NoF (P : Nat → Prop) (R : Nat) : Prop := ∀ x, x < R → ¬ P x
def FaultIs (g : Gr) (kd : Nat) (v : Int) : Prop :=
  (gR g = 0 ∧ kd = 1 ∧ v = -1) ∨ (gR g ≠ 0 ∧ ¬ NoF (F2 g) (gR g) ∧ kd = 2 ∧ Low (F2 g) 0 (gR g) v) ∨
  (gR g ≠ 0 ∧ NoF (F2 g) (gR g) ∧ ¬ NoF (F3 g) (gR g) ∧ kd = 3 ∧ Low (F3 g) 0 (gR g) v) ∨
  (gR g ≠ 0 ∧ NoF (F2 g) (gR g) ∧ NoF (F3 g) (gR g) ∧ ¬ NoF (F4 g) (gR g) ∧ kd = 4 ∧ Low (F4 g) 0 (gR g) v) ∨
  (gR g ≠ 0 ∧ NoF (F2 g) (gR g) ∧ NoF (F3 g) (gR g) ∧ NoF (F4 g) (gR g) ∧ kd = 0 ∧ v = -1)
theorem FaultIs.uniq {g : Gr} {kd kd' : Nat} {v v' : Int} (h : FaultIs g kd v) (h' : FaultIs g kd' v') : kd = kd' ∧ v = v' := by
  rcases h with ⟨a1, a2, a3⟩ | ⟨a1, a2, a3, a4⟩ | ⟨a1, a2, a3, a4, a5⟩ | ⟨a1, a2, a3, a4, a5, a6⟩ | ⟨a1, a2, a3, a4, a5, a6⟩ <;>
  rcases h' with ⟨b1, b2, b3⟩ | ⟨b1, b2, b3, b4⟩ | ⟨b1, b2, b3, b4, b5⟩ | ⟨b1, b2, b3, b4, b5, b6⟩ | ⟨b1, b2, b3, b4, b5, b6⟩ <;>
  first
    | (exfalso; omega)
    | contradiction
    | exact ⟨by omega, by omega⟩
    | exact ⟨by omega, a4.uniq b4⟩
    | exact ⟨by omega, a5.uniq b5⟩
    | exact ⟨by omega, a6.uniq b6⟩
theorem FaultIs.bd {g : Gr} {kd : Nat} {v : Int} (h : FaultIs g kd v) : kd ≤ 4 ∧ -1 ≤ v ∧ v ≤ gR g := by
  rcases h with ⟨a1, a2, a3⟩ | ⟨a1, a2, a3, a4⟩ | ⟨a1, a2, a3, a4, a5⟩ | ⟨a1, a2, a3, a4, a5, a6⟩ | ⟨a1, a2, a3, a4, a5, a6⟩
  · omega
  · have := a4.bd; omega
  · have := a5.bd; omega
  · have := a6.bd; omega
  · omega
theorem FaultIs.right {g : Gr} {v : Int} (h : FaultIs g 0 v) : gR g ≠ 0 ∧ NoF (F2 g) (gR g) ∧ NoF (F3 g) (gR g) ∧ NoF (F4 g) (gR g) := by
  rcases h with ⟨a1, a2, a3⟩ | ⟨a1, a2, a3, a4⟩ | ⟨a1, a2, a3, a4, a5⟩ | ⟨a1, a2, a3, a4, a5, a6⟩ | ⟨a1, a2, a3, a4, a5, a6⟩
  · omega
  · omega
  · omega
  · omega
  · exact ⟨a1, a2, a3, a4⟩
theorem rl_lt {g : Gr} (h : NoF (F2 g) (gR g)) {x a k : Nat} (hx : x < gR g) (ha : a < gA g x) (hk : k < gL g (8 * x + a)) (hs : gY g (8 * x + a) k < 0) : rl (gY g (8 * x + a) k) < gR g := by
  have := h x hx
  have : ¬ gY g (8 * x + a) k < -(gR g : Int) := fun q => this ⟨a, ha, k, hk, q⟩
  unfold rl; omega
theorem Lf0_lt {g : Gr} (h : NoF (F2 g) (gR g)) {x y : Nat} (hx : x < gR g) (hl : Lf0 g x y) : y < gR g := by
  obtain ⟨a, ha, k, hk, hs, e, _⟩ := hl
  rw [← e]; exact rl_lt h hx ha hk hs
theorem i1n0 : ¬ (1 : Int32) = 0 := by decide
