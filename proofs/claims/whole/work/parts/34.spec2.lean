/-! first tokens, following tokens -/
def symFst (B : Nat → Nat → Prop) (z : Int) (t : Nat) : Prop := (0 ≤ z ∧ z = t) ∨ (z < 0 ∧ B (rl z) t)
def rowFst (g : Gr) (B : Nat → Nat → Prop) (row k t : Nat) : Prop := ∃ j, k ≤ j ∧ j < gL g row ∧ (∀ i, k ≤ i → i < j → nulS g (gY g row i)) ∧ symFst B (gY g row j) t
theorem rowFst_step {g : Gr} {B : Nat → Nat → Prop} {row k t : Nat} (hk : k < gL g row) : rowFst g B row k t ↔ (symFst B (gY g row k) t ∨ (nulS g (gY g row k) ∧ rowFst g B row (k + 1) t)) := by
  constructor
  · rintro ⟨j, h1, h2, h3, h4⟩
    by_cases e : j = k
    · subst e; exact .inl h4
    · exact .inr ⟨h3 k (by omega) (by omega), j, by omega, h2, fun i q1 q2 => h3 i (by omega) q2, h4⟩
  · rintro (h | ⟨h0, j, h1, h2, h3, h4⟩)
    · exact ⟨k, by omega, hk, fun i q1 q2 => by omega, h⟩
    · refine ⟨j, by omega, h2, fun i q1 q2 => ?_, h4⟩
      by_cases e : i = k
      · rw [e]; exact h0
      · exact h3 i (by omega) q2
theorem rowFst_end {g : Gr} {B : Nat → Nat → Prop} {row k t : Nat} (hk : gL g row ≤ k) : ¬ rowFst g B row k t := fun ⟨j, h1, h2, _⟩ => by omega
theorem rowN_step {g : Gr} {B : Nat → Prop} {row k : Nat} (hk : k < gL g row) : rowN g B row k ↔ ((gY g row k < 0 ∧ B (rl (gY g row k))) ∧ rowN g B row (k + 1)) := by
  constructor
  · intro h; exact ⟨h k (by omega) hk, fun j h1 h2 => h j (by omega) h2⟩
  · rintro ⟨h0, h⟩ j h1 h2
    by_cases e : j = k
    · rw [e]; exact h0
    · exact h j (by omega) h2
theorem rowN_end {g : Gr} {B : Nat → Prop} {row k : Nat} (hk : gL g row ≤ k) : rowN g B row k := fun j h1 h2 => by omega
theorem rowN_congr {g : Gr} {B B' : Nat → Prop} (h : ∀ x, B x ↔ B' x) {row k : Nat} : rowN g B row k ↔ rowN g B' row k := ⟨rowN_mono (fun x => (h x).mp), rowN_mono (fun x => (h x).mpr)⟩
theorem rowFst_congr {g : Gr} {B B' : Nat → Nat → Prop} {row k t : Nat} (h : ∀ j, k ≤ j → j < gL g row → gY g row j < 0 → (∀ i, k ≤ i → i < j → nulS g (gY g row i)) → (B (rl (gY g row j)) t ↔ B' (rl (gY g row j)) t)) :
    rowFst g B row k t ↔ rowFst g B' row k t := by
  constructor
  · rintro ⟨j, h1, h2, h3, h4⟩
    refine ⟨j, h1, h2, h3, h4.elim .inl (fun q => .inr ⟨q.1, (h j h1 h2 q.1 h3).mp q.2⟩)⟩
  · rintro ⟨j, h1, h2, h3, h4⟩
    refine ⟨j, h1, h2, h3, h4.elim .inl (fun q => .inr ⟨q.1, (h j h1 h2 q.1 h3).mpr q.2⟩)⟩
theorem rowFst_mono {g : Gr} {B B' : Nat → Nat → Prop} (h : ∀ x t, B x t → B' x t) {row k t : Nat} (hr : rowFst g B row k t) : rowFst g B' row k t := by
  obtain ⟨j, h1, h2, h3, h4⟩ := hr
  exact ⟨j, h1, h2, h3, h4.elim .inl (fun q => .inr ⟨q.1, h _ _ q.2⟩)⟩
def ClosedF (g : Gr) (B : Nat → Nat → Prop) : Prop := ∀ x, x < gR g → ∀ a, a < gA g x → ∀ t, rowFst g B (8 * x + a) 0 t → B x t
def Fst (g : Gr) (x t : Nat) : Prop := ∀ B, ClosedF g B → B x t
theorem Fst_closed (g : Gr) : ClosedF g (Fst g) := fun x hx a ha t h B hB => hB x hx a ha t (rowFst_mono (fun y s q => q B hB) h)
theorem Fst_iff {g : Gr} {x : Nat} (hx : x < gR g) (t : Nat) : Fst g x t ↔ ∃ a, a < gA g x ∧ rowFst g (Fst g) (8 * x + a) 0 t := by
  constructor
  · intro h
    refine (h (fun x t => x < gR g ∧ ∃ a, a < gA g x ∧ rowFst g (Fst g) (8 * x + a) 0 t) ?_).2
    intro y hy a ha s hs
    refine ⟨hy, a, ha, rowFst_mono ?_ hs⟩
    rintro z u ⟨hz, b, hb, q⟩
    exact Fst_closed g z hz b hb u q
  · rintro ⟨a, ha, h⟩; exact Fst_closed g x hx a ha t h
def Topo (g : Gr) (o : Nat → Nat) : Prop := (∀ k, k < gR g → o k < gR g) ∧ (∀ x, x < gR g → ∃ k, k < gR g ∧ o k = x) ∧ ∀ k, k < gR g → ∀ y, Lf g (o k) y → ∃ j, j < k ∧ o j = y
/-- the tokens behind symbol k of a row, where F follows the row -/
def behind (g : Gr) (F : Nat → Prop) (row k t : Nat) : Prop := rowFst g (Fst g) row (k + 1) t ∨ (rowN g (Nul g) row (k + 1) ∧ F t)
def ClosedW (g : Gr) (B : Nat → Nat → Prop) : Prop := (0 < gR g → B 0 32) ∧ ∀ x, x < gR g → ∀ a, a < gA g x → ∀ k, k < gL g (8 * x + a) → gY g (8 * x + a) k < 0 → ∀ t, behind g (B x) (8 * x + a) k t → B (rl (gY g (8 * x + a) k)) t
def Fol (g : Gr) (x t : Nat) : Prop := ∀ B, ClosedW g B → B x t
theorem behind_mono {g : Gr} {F F' : Nat → Prop} {row k t : Nat} (h : F t → F' t) (hb : behind g F row k t) : behind g F' row k t := hb.elim .inl (fun q => .inr ⟨q.1, h q.2⟩)
theorem Fol_closed (g : Gr) : ClosedW g (Fol g) := ⟨fun h B hB => hB.1 h, fun x hx a ha k hk hs t h B hB => hB.2 x hx a ha k hk hs t (behind_mono (fun q => q B hB) h)⟩
/-- for one token t: closed -/
def ClosedT (g : Gr) (B : Nat → Nat → Prop) (t : Nat) : Prop := (t = 32 → 0 < gR g → B 0 32) ∧ ∀ x, x < gR g → ∀ a, a < gA g x → ∀ k, k < gL g (8 * x + a) → gY g (8 * x + a) k < 0 → behind g (B x) (8 * x + a) k t → B (rl (gY g (8 * x + a) k)) t
theorem Fol_T {g : Gr} {B : Nat → Nat → Prop} {t x : Nat} (h : ClosedT g B t) (hx : Fol g x t) : B x t := by
  have := hx (fun y s => s = t → B y s) ⟨fun h0 e => by subst e; exact h.1 rfl h0, fun y hy a ha k hk hs s hb e => by
    subst e
    exact h.2 y hy a ha k hk hs (behind_mono (fun q => q rfl) hb)⟩
  exact this rfl
/-- a pass: from B0, now at B, the places of D handled -/
def PassW (g : Gr) (B0 B : Nat → Nat → Prop) (D : Nat → Nat → Nat → Prop) : Prop :=
  (∀ x t, B0 x t → B x t) ∧ (∀ x t, B x t → Fol g x t) ∧ (∀ t, (∀ x, B x t → B0 x t) → ∀ x a k, D x a k → behind g (B x) (8 * x + a) k t → B (rl (gY g (8 * x + a) k)) t)
theorem PassW.start {g : Gr} {B : Nat → Nat → Prop} (h : ∀ x t, B x t → Fol g x t) : PassW g B B (fun _ _ _ => False) := ⟨fun _ _ h => h, h, fun _ _ _ _ _ h => h.elim⟩
theorem PassW.mono {g : Gr} {B0 B : Nat → Nat → Prop} {D D' : Nat → Nat → Nat → Prop} (h : PassW g B0 B D) (hd : ∀ x a k, D' x a k → D x a k) : PassW g B0 B D' := ⟨h.1, h.2.1, fun t e x a k q => h.2.2 t e x a k (hd x a k q)⟩
theorem PassW.step {g : Gr} {B0 B B' : Nat → Nat → Prop} {D : Nat → Nat → Nat → Prop} (h : PassW g B0 B D) {x a k : Nat} (hx : x < gR g) (ha : a < gA g x) (hk : k < gL g (8 * x + a)) (hs : gY g (8 * x + a) k < 0)
    (C : Nat → Prop) (hC0 : ∀ t, B0 x t → C t) (hC : ∀ t, C t → B x t)
    (h1 : ∀ z t, B' z t ↔ (B z t ∨ (z = rl (gY g (8 * x + a) k) ∧ behind g C (8 * x + a) k t))) : PassW g B0 B' (fun y b j => D y b j ∨ (y = x ∧ b = a ∧ j = k)) := by
  obtain ⟨p1, p2, p3⟩ := h
  refine ⟨fun z t q => (h1 z t).mpr (.inl (p1 z t q)), ?_, ?_⟩
  · intro z t hz
    rcases (h1 z t).mp hz with q | ⟨rfl, q⟩
    · exact p2 z t q
    · exact (Fol_closed g).2 x hx a ha k hk hs t (behind_mono (fun c => p2 x t (hC t c)) q)
  · intro t e y b j hD hb
    have e1 : ∀ z, B' z t ↔ B z t := fun z => ⟨fun q => p1 z t (e z q), fun q => (h1 z t).mpr (.inl q)⟩
    have hb' : behind g (B y) (8 * y + b) j t := behind_mono (fun q => (e1 y).mp q) hb
    rcases hD with q | ⟨rfl, rfl, rfl⟩
    · exact (e1 _).mpr (p3 t (fun z hz => e z ((e1 z).mpr hz)) y b j q hb')
    · exact (h1 _ t).mpr (.inr ⟨rfl, behind_mono (fun q => hC0 t (e y ((e1 y).mpr q))) hb'⟩)
theorem PassW.fin {g : Gr} {B0 B : Nat → Nat → Prop} {D : Nat → Nat → Nat → Prop} (h : PassW g B0 B D) (hd : ∀ x a k, x < gR g → a < gA g x → k < gL g (8 * x + a) → gY g (8 * x + a) k < 0 → D x a k) {t : Nat} (e : ∀ x, B x t → B0 x t) (h0 : t = 32 → 0 < gR g → B 0 32) : ClosedT g B t :=
  ⟨h0, fun x hx a ha k hk hs hb => h.2.2 t e x a k (hd x a k hx ha hk hs) hb⟩
theorem Fol_lt {g : Gr} (hn : NoF (F2 g) (gR g)) {x t : Nat} (h : Fol g x t) : x < gR g := h (fun x t => x < gR g) ⟨fun h => h, fun x hx a ha k hk hs t _ => rl_lt hn hx ha hk hs⟩
/-- after i passes -/
def AfterW (g : Gr) (i : Nat) (B : Nat → Nat → Bool) : Prop := (∀ x t, B x t = true → Fol g x t) ∧ (0 < gR g → B 0 32 = true) ∧ ∀ t, ClosedT g (fun x s => B x s = true) t ∨ i ≤ cnt (fun x => B x t) (gR g)
theorem AfterW.next {g : Gr} {i : Nat} {B B' : Nat → Nat → Bool} (hn : NoF (F2 g) (gR g)) (h : AfterW g i B) {D : Nat → Nat → Nat → Prop} (hp : PassW g (fun x t => B x t = true) (fun x t => B' x t = true) D)
    (hd : ∀ x a k, x < gR g → a < gA g x → k < gL g (8 * x + a) → gY g (8 * x + a) k < 0 → D x a k) : AfterW g (i + 1) B' := by
  refine ⟨hp.2.1, fun q => hp.1 0 32 (h.2.1 q), fun t => ?_⟩
  by_cases e : ∀ x, B' x t = true → B x t = true
  · exact .inl (hp.fin hd e (fun q h0 => hp.1 0 32 (h.2.1 h0)))
  · rcases h.2.2 t with q | q
    · exact absurd (fun x hx => Fol_T q (hp.2.1 x t hx)) e
    · obtain ⟨x, h1, h2⟩ : ∃ x, B' x t = true ∧ ¬ B x t = true := Classical.byContradiction (fun q => e (fun x hx => Classical.byContradiction (fun q2 => q ⟨x, hx, q2⟩)))
      have := cnt_lt (f := fun x => B x t) (f' := fun x => B' x t) (fun x hx => hp.1 x t hx) (Fol_lt hn (hp.2.1 x t h1)) (by simpa using h2) h1
      exact .inr (by omega)
theorem AfterW.same {g : Gr} {B : Nat → Nat → Bool} (h : (∀ x t, B x t = true → Fol g x t)) (hc : ∀ t, ClosedT g (fun x s => B x s = true) t) (x t : Nat) : B x t = true ↔ Fol g x t := ⟨h x t, fun q => Fol_T (hc t) q⟩
theorem AfterW.full {g : Gr} {i : Nat} {B : Nat → Nat → Bool} (hn : NoF (F2 g) (gR g)) (h : AfterW g i B) (hi : gR g ≤ i) : ∀ t, ClosedT g (fun x s => B x s = true) t := by
  intro t
  rcases h.2.2 t with q | q
  · exact q
  · have hf := cnt_full (f := fun x => B x t) (n := gR g) (by omega)
    exact ⟨fun e h0 => h.2.1 h0, fun x hx a ha k hk hs _ => hf _ (rl_lt hn hx ha hk hs)⟩
theorem nN {z : Int} (h : 0 ≤ z) : sI z = nI z.toNat := by rw [nI_sI]; congr 1; omega
theorem tb_shlL {p : Nat} (h : p < 64) (i : Nat) : tb (shlL 1 (nI p)) i = decide (i = p) := tb_sh1 h i
