/-! states that differ in some cells alone -/
abbrev inR (a b k : Nat) : Prop := a ≤ k ∧ k ≤ b
def Fr (P : Nat → Prop) (σ σ' : St) : Prop := σ'.1 = σ.1 ∧ (∀ k, ¬ P k → xi σ' k = xi σ k) ∧ (∀ k, ¬ P k → xl σ' k = xl σ k) ∧ σ'.2.2.2 = σ.2.2.2
theorem Fr.refl (P : Nat → Prop) (σ : St) : Fr P σ σ := ⟨rfl, fun _ _ => rfl, fun _ _ => rfl, rfl⟩
theorem Fr.trans {P : Nat → Prop} {σ σ' σ'' : St} (h : Fr P σ σ') (h' : Fr P σ' σ'') : Fr P σ σ'' :=
  ⟨h'.1.trans h.1, fun k hk => (h'.2.1 k hk).trans (h.2.1 k hk), fun k hk => (h'.2.2.1 k hk).trans (h.2.2.1 k hk), h'.2.2.2.trans h.2.2.2⟩
theorem Fr.mono {P P' : Nat → Prop} {σ σ' : St} (h : Fr P σ σ') (hp : ∀ k, P k → P' k) : Fr P' σ σ' :=
  ⟨h.1, fun k hk => h.2.1 k (fun q => hk (hp k q)), fun k hk => h.2.2.1 k (fun q => hk (hp k q)), h.2.2.2⟩
theorem Fr.i {P : Nat → Prop} {σ σ' : St} (h : Fr P σ σ') {k : Nat} (hk : P k) (i : Nat) (v : Int32) : Fr P σ (wi σ' k i v) := by
  refine ⟨h.1, fun j hj => ?_, h.2.2.1, h.2.2.2⟩
  have e : ¬ j = k := fun q => hj (q ▸ hk)
  show (if j = k then _ else xi σ' j) = _
  rw [if_neg e]; exact h.2.1 j hj
theorem Fr.l {P : Nat → Prop} {σ σ' : St} (h : Fr P σ σ') {k : Nat} (hk : P k) (i : Nat) (v : Int64) : Fr P σ (wl σ' k i v) := by
  refine ⟨h.1, h.2.1, fun j hj => ?_, h.2.2.2⟩
  have e : ¬ j = k := fun q => hj (q ▸ hk)
  show (if j = k then _ else xl σ' j) = _
  rw [if_neg e]; exact h.2.2.1 j hj
theorem Fr.ei {P : Nat → Prop} {σ σ' : St} (h : Fr P σ σ') (k : Nat) (hk : ¬ P k) : xi σ' k = xi σ k := h.2.1 k hk
theorem Fr.el {P : Nat → Prop} {σ σ' : St} (h : Fr P σ σ') (k : Nat) (hk : ¬ P k) : xl σ' k = xl σ k := h.2.2.1 k hk
theorem GC.fr {g : Gr} {P : Nat → Prop} {σ σ' : St} (hg : GC g σ) (h : Fr P σ σ') (hp : ¬ P 1 ∧ ¬ P 2 ∧ ¬ P 3 ∧ ¬ P 4) : GC g σ' := hg.of (h.ei 1 hp.1) (h.ei 2 hp.2.1) (h.ei 3 hp.2.2.1) (h.ei 4 hp.2.2.2)
theorem GM.fr {g : Gr} {P : Nat → Prop} {σ σ' : St} (hg : GM g σ) (h : Fr P σ σ') (h0 : xi σ' 0 1 = xi σ 0 1) (hp : ¬ P 1 ∧ ¬ P 2 ∧ ¬ P 3) : GM g σ' := hg.of h0 (h.ei 1 hp.1) (h.ei 2 hp.2.1) (h.ei 3 hp.2.2)
/-- the tokens -/
def WT (T : Nat → Int) (n : Nat) : Prop := n ≤ 60 ∧ ∀ i, 0 ≤ T i ∧ T i ≤ 31
def IC (T : Nat → Int) (n : Nat) (σ : St) : Prop := xi σ 10 0 = nI n ∧ ∀ i, i < 60 → xi σ 11 i = sI (T i)
def IM (T : Nat → Int) (n : Nat) (τ : St) : Prop := xi τ 0 3 = nI n ∧ ∀ i, i < 60 → xi τ 7 i = sI (T i)
theorem tb_shl1 (x : Int64) (i : Nat) : tb (shlL x 1) i = true ↔ ∃ q, tb x q = true ∧ i = q + 1 ∧ i < 64 := by
  unfold shlL
  rw [show (1 : Int32) = nI 1 from rfl, tb_shl (by omega)]
  simp only [Bool.and_eq_true, decide_eq_true_eq, Bool.not_eq_true', decide_eq_false_iff_not]
  constructor
  · rintro ⟨⟨h1, h2⟩, h3⟩; exact ⟨i - 1, h3, by omega, h1⟩
  · rintro ⟨q, h1, h2, h3⟩; subst h2; exact ⟨⟨h3, by omega⟩, by rw [Nat.add_sub_cancel]; exact h1⟩
theorem imax_n {a b : Nat} (h1 : a < 2147483648) (h2 : b < 2147483648) : imax (nI a) (nI b) = nI (max a b) := by
  unfold imax
  by_cases c : a < b
  · rw [if_pos ((n_lt h1 h2).mpr c), Nat.max_eq_right (by omega)]
  · rw [if_neg (fun q => c ((n_lt h1 h2).mp q)), Nat.max_eq_left (by omega)]
theorem imin_n {a b : Nat} (h1 : a < 2147483648) (h2 : b < 2147483648) : imin (nI a) (nI b) = nI (min a b) := by
  unfold imin
  by_cases c : b < a
  · rw [if_pos ((n_lt h2 h1).mpr c), Nat.min_eq_right (by omega)]
  · rw [if_neg (fun q => c ((n_lt h2 h1).mp q)), Nat.min_eq_left (by omega)]
theorem has1 {x : Int64} {p : Nat} (h : p < 64) : ¬ hasB x (nI p) = 0 ↔ tb x p = true := by
  rw [hasB_eq h]; cases tb x p <;> decide
theorem has0' {x : Int64} {p : Nat} (h : p < 64) : hasB x (nI p) = 0 ↔ ¬ tb x p = true := by
  rw [hasB_eq h]; cases tb x p <;> decide
theorem m61 (a b : Nat) : nI a * 61 + nI b = nI (61 * a + b) := by
  rw [show (61 : Int32) = nI 61 from rfl, n_mul, n_add, Nat.mul_comm]
theorem mx_join {A B : Nat → Prop} {e m : Nat} (hm : m ≤ e) (h : A m) : mx (fun i => i = mx A e ∨ B i) e = mx (fun i => A i ∨ B i) e := by
  obtain ⟨a1, a2⟩ := mx_in hm h
  obtain ⟨c1, c2⟩ := mx_in (S := fun i => i = mx A e ∨ B i) (mx_le A e) (.inl rfl)
  refine (mx_eq (mx_le _ _) ?_ ?_).symm
  · rcases c1 with c | c
    · exact .inl (by rw [c]; exact a1)
    · exact .inr c
  · rintro i hi (w | w)
    · have := (mx_in hi w).2; omega
    · exact (mx_in (S := fun i => i = mx A e ∨ B i) hi (.inr w)).2
theorem exE {β : Type} {P Q : β → Prop} {R : Prop} (h : ∃ b, P b ∧ Q b) (k : ∀ b, P b → Q b → R) : R := by
  obtain ⟨b, h1, h2⟩ := h
  exact k b h1 h2
