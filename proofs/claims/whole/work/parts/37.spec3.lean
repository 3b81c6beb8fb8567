/-! rank; a while loop -/
theorem iterW {α κ : Type} {C : κ → Prop} (I : α → Prop) (H : κ → α → Prop) (P : α → Prop) (μ : α → Nat)
    (st : ∀ a, I a → ¬ P a → ∃ a', I a' ∧ μ a' < μ a ∧ ∀ q, C q → H q a' → H q a) (a : α) (h : I a) : ∃ a', I a' ∧ P a' ∧ ∀ q, C q → H q a' → H q a := by
  obtain ⟨m, hm⟩ : ∃ m, μ a < m := ⟨μ a + 1, by omega⟩
  induction m generalizing a with
  | zero => omega
  | succ m ih =>
    by_cases hp : P a
    · exact ⟨a, h, hp, fun q _ k => k⟩
    · obtain ⟨a1, h1, h2, k1⟩ := st a h hp
      obtain ⟨a2, h3, h4, k2⟩ := ih a1 h1 (by omega)
      exact ⟨a2, h3, h4, fun q hq k => k1 q hq (k2 q hq k)⟩
theorem Wl_lt {g : Gr} (h : NoF (F2 g) (gR g)) (z : Nat) : z ≤ gR g → ∀ x y, x < gR g → Wl g z x y → y < gR g := by
  induction z with
  | zero => intro _ x y hx hl; exact Lf0_lt h hx hl
  | succ z ih =>
    intro hz x y hx hl
    rcases hl with hl | ⟨h1, h2⟩
    · exact ih (by omega) x y hx hl
    · exact ih (by omega) z y (by omega) h2
theorem Lf_lt {g : Gr} (h : NoF (F2 g) (gR g)) {x y : Nat} (hx : x < gR g) (hl : Lf g x y) : y < gR g := Wl_lt h _ (Nat.le_refl _) x y hx hl
theorem Lf_trans {g : Gr} {x w y : Nat} (hw : w < gR g) (h1 : Lf g x w) (h2 : Lf g w y) : Lf g x y := Wl_trans _ x w y hw h1 h2
noncomputable def pB (P : Prop) : Bool := @decide P (Classical.propDecidable P)
theorem pB_t {P : Prop} : pB P = true ↔ P := by unfold pB; exact @decide_eq_true_iff P (Classical.propDecidable P)
theorem pB_f {P : Prop} : pB P = false ↔ ¬ P := by
  rw [← Bool.not_eq_true, pB_t]
noncomputable def rk (g : Gr) (x : Nat) : Nat := cnt (fun y => pB (Lf g x y)) (gR g)
theorem rk_lt {g : Gr} (h2 : NoF (F2 g) (gR g)) (h4 : NoF (F4 g) (gR g)) {x y : Nat} (hx : x < gR g) (hl : Lf g x y) : rk g y < rk g x := by
  have hy := Lf_lt h2 hx hl
  exact cnt_lt (fun i hi => pB_t.mpr (Lf_trans hy hl (pB_t.mp hi))) hy (pB_f.mpr (h4 y hy)) (pB_t.mpr hl)
theorem rk_bd {g : Gr} (h4 : NoF (F4 g) (gR g)) {x : Nat} (hx : x < gR g) : rk g x < gR g := by
  have h1 := cnt_le (fun y => pB (Lf g x y)) (gR g)
  have : ¬ gR g ≤ rk g x := fun q => h4 x hx (pB_t.mp (cnt_full q x hx))
  unfold rk at this ⊢; omega
theorem minRk {g : Gr} (P : Nat → Prop) (h : ∃ x, x < gR g ∧ P x) : ∃ x, x < gR g ∧ P x ∧ ∀ y, y < gR g → rk g y < rk g x → ¬ P y := by
  obtain ⟨x, hx, hp⟩ := h
  obtain ⟨m, hm⟩ : ∃ m, rk g x < m := ⟨rk g x + 1, by omega⟩
  induction m generalizing x with
  | zero => omega
  | succ m ih =>
    by_cases e : ∃ y, y < gR g ∧ rk g y < rk g x ∧ P y
    · obtain ⟨y, h1, h2, h3⟩ := e
      exact ih y h1 h3 (by omega)
    · exact ⟨x, hx, hp, fun y h1 h2 h3 => e ⟨y, h1, h2, h3⟩⟩
