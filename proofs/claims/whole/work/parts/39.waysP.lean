/-! how many ways -/
def sumN (f : Nat → Nat) : Nat → Nat
  | 0 => 0
  | n + 1 => sumN f n + f n
theorem sumN_congr {f f' : Nat → Nat} {n : Nat} (h : ∀ i, i < n → f i = f' i) : sumN f n = sumN f' n := by
  induction n with
  | zero => rfl
  | succ n ih => show sumN f n + f n = sumN f' n + f' n; rw [ih (fun i hi => h i (by omega)), h n (by omega)]
theorem sumN_0 {f : Nat → Nat} {n : Nat} (h : ∀ i, i < n → f i = 0) : sumN f n = 0 := by
  induction n with
  | zero => rfl
  | succ n ih => show sumN f n + f n = 0; rw [ih (fun i hi => h i (by omega)), h n (by omega)]
theorem sumN_ne {f : Nat → Nat} {n : Nat} (h : sumN f n ≠ 0) : ∃ i, i < n ∧ f i ≠ 0 := by
  refine Classical.byContradiction (fun q => h (sumN_0 (fun i hi => ?_)))
  exact Classical.byContradiction (fun w => q ⟨i, hi, w⟩)
theorem sumN_one {f : Nat → Nat} {n : Nat} (i : Nat) (hi : i < n) (h : ∀ j, j < n → j ≠ i → f j = 0) : sumN f n = f i := by
  induction n with
  | zero => omega
  | succ n ih =>
    show sumN f n + f n = f i
    by_cases e : i = n
    · subst e; rw [sumN_0 (fun j hj => h j (by omega) (by omega))]; omega
    · rw [ih (by omega) (fun j hj => h j (by omega)), h n (by omega) (by omega)]; rfl
def sN (N : Nat → Nat → Nat → Nat) (T : Nat → Int) (e : Nat) (z : Int) (m q : Nat) : Nat := if 0 ≤ z then (if m < e ∧ T m = z ∧ q = m + 1 then 1 else 0) else N (rl z) m q
def rN (g : Gr) (N : Nat → Nat → Nat → Nat) (T : Nat → Int) (e row : Nat) : Nat → Nat → Nat → Nat
  | 0 => fun p q => if q = p then 1 else 0
  | k + 1 => fun p q => sumN (fun m => rN g N T e row k p m * sN N T e (gY g row k) m q) (e + 1)
def NF (g : Gr) (T : Nat → Int) (e : Nat) : Nat → Nat → Nat → Nat → Nat
  | 0 => fun _ _ _ => 0
  | f + 1 => fun x p q => if x < gR g ∧ p ≤ e then sumN (fun a => rN g (NF g T e f) T e (8 * x + a) (gL g (8 * x + a)) p q) (gA g x) else 0
theorem rN_run {g : Gr} {N : Nat → Nat → Nat → Nat} {T : Nat → Int} {e row : Nat} (hN : ∀ x p q, N x p q ≠ 0 → En g T e x p q) (k : Nat) : ∀ p q, rN g N T e row k p q ≠ 0 → Run g T e row k p q := by
  induction k with
  | zero => intro p q h; exact Classical.byContradiction (fun w => h (if_neg w))
  | succ k ih =>
    intro p q h
    obtain ⟨m, h1, h2⟩ := sumN_ne h
    have h3 : rN g N T e row k p m ≠ 0 := fun w => h2 (by simp only [w, Nat.zero_mul])
    have h4 : sN N T e (gY g row k) m q ≠ 0 := fun w => h2 (by simp only [w, Nat.mul_zero])
    refine ⟨m, ih p m h3, ?_⟩
    unfold sN at h4
    by_cases hz : 0 ≤ gY g row k
    · rw [if_pos hz] at h4
      have : m < e ∧ T m = gY g row k ∧ q = m + 1 := Classical.byContradiction (fun w => h4 (if_neg w))
      exact .inl ⟨hz, this⟩
    · rw [if_neg hz] at h4
      exact .inr ⟨by omega, hN _ _ _ h4⟩
theorem NF_en {g : Gr} {T : Nat → Int} {e : Nat} (f : Nat) : ∀ x p q, NF g T e f x p q ≠ 0 → En g T e x p q := by
  induction f with
  | zero => intro x p q h; exact absurd rfl h
  | succ f ih =>
    intro x p q h
    unfold NF at h
    by_cases hx : x < gR g ∧ p ≤ e
    · simp only [if_pos hx] at h
      obtain ⟨a, ha, h2⟩ := sumN_ne h
      exact (En_iff hx.1 hx.2 q).mpr ⟨a, ha, rN_run ih _ p q h2⟩
    · simp only [if_neg hx] at h; exact absurd rfl h
noncomputable def mu (g : Gr) (e x p : Nat) : Nat := 17 * (e - p) + rk g x
theorem rN_congr {g : Gr} {N N' : Nat → Nat → Nat → Nat} {T : Nat → Int} {e row p : Nat} (hp : p ≤ e) (hN : ∀ x p q, N x p q ≠ 0 → En g T e x p q) (k : Nat)
    (h : ∀ j, j < k → ∀ m, Run g T e row j p m → gY g row j < 0 → ∀ q, N (rl (gY g row j)) m q = N' (rl (gY g row j)) m q) : ∀ q, rN g N T e row k p q = rN g N' T e row k p q := by
  induction k with
  | zero => intro q; rfl
  | succ k ih =>
    intro q
    refine sumN_congr (fun m hm => ?_)
    have ih := ih (fun j hj => h j (by omega))
    show rN g N T e row k p m * _ = rN g N' T e row k p m * _
    rw [← ih m]
    by_cases h0 : rN g N T e row k p m = 0
    · rw [h0, Nat.zero_mul, Nat.zero_mul]
    · congr 1
      unfold sN
      by_cases hz : 0 ≤ gY g row k
      · rw [if_pos hz, if_pos hz]
      · rw [if_neg hz, if_neg hz]; exact h k (by omega) m (rN_run hN k p m h0) (by omega) q
theorem mu_lt {g : Gr} {T : Nat → Int} {e x a k p m : Nat} (hw : WF g) (h2 : NoF (F2 g) (gR g)) (h4 : NoF (F4 g) (gR g)) (hx : x < gR g) (hp : p ≤ e) (ha : a < gA g x) (hk : k < gL g (8 * x + a)) (hs : gY g (8 * x + a) k < 0) (hr : Run g T e (8 * x + a) k p m) :
    mu g e (rl (gY g (8 * x + a) k)) m < mu g e x p := by
  obtain ⟨b1, b2, b3⟩ := Run_bd hp hr
  have hy := rl_lt h2 hx ha hk hs
  have r1 := rk_bd h4 hy
  have r16 := hw.r
  unfold mu
  by_cases q : p < m
  · omega
  · have e1 : m = p := by omega
    subst e1
    have := rk_lt h2 h4 hx (Lf_of (Run_left hp ha hk hs hr))
    omega
theorem NF_stab {g : Gr} {T : Nat → Int} {e : Nat} (hw : WF g) (h2 : NoF (F2 g) (gR g)) (h4 : NoF (F4 g) (gR g)) (M : Nat) : ∀ x p, x < gR g → p ≤ e → mu g e x p < M → ∀ f f', mu g e x p < f → mu g e x p < f' → ∀ q, NF g T e f x p q = NF g T e f' x p q := by
  induction M with
  | zero => intro x p _ _ h; omega
  | succ M ih =>
    intro x p hx hp hM f f' hf hf' q
    obtain ⟨f, rfl⟩ : ∃ f1, f = f1 + 1 := ⟨f - 1, by omega⟩
    obtain ⟨f', rfl⟩ : ∃ f1, f' = f1 + 1 := ⟨f' - 1, by omega⟩
    unfold NF
    simp only [if_pos (show x < gR g ∧ p ≤ e from ⟨hx, hp⟩)]
    refine sumN_congr (fun a ha => rN_congr hp (NF_en f) _ (fun j hj m hr hs q => ?_) q)
    have := mu_lt hw h2 h4 hx hp ha hj hs hr
    exact ih _ m (rl_lt h2 hx ha hj hs) (Run_bd hp hr).2.1 (by omega) f f' (by omega) (by omega) q
/-- the number of ways -/
def Nw (g : Gr) (T : Nat → Int) (e x p q : Nat) : Nat := NF g T e (17 * (e + 1)) x p q
theorem Nw_en {g : Gr} {T : Nat → Int} {e x p q : Nat} (h : Nw g T e x p q ≠ 0) : En g T e x p q := NF_en _ x p q h
theorem rN_Run {g : Gr} {T : Nat → Int} {e row k p q : Nat} (h : rN g (Nw g T e) T e row k p q ≠ 0) : Run g T e row k p q := rN_run (fun _ _ _ => Nw_en) k p q h
theorem Nw_eq {g : Gr} {T : Nat → Int} {e : Nat} (hw : WF g) (h2 : NoF (F2 g) (gR g)) (h4 : NoF (F4 g) (gR g)) {x p : Nat} (hx : x < gR g) (hp : p ≤ e) (q : Nat) :
    Nw g T e x p q = sumN (fun a => rN g (Nw g T e) T e (8 * x + a) (gL g (8 * x + a)) p q) (gA g x) := by
  have hm : mu g e x p < 17 * e + 16 := by
    have := rk_bd h4 hx
    have := hw.r
    unfold mu; omega
  unfold Nw
  rw [show 17 * (e + 1) = (17 * e + 16) + 1 from by omega]
  conv => lhs; unfold NF
  simp only [if_pos (show x < gR g ∧ p ≤ e from ⟨hx, hp⟩)]
  refine sumN_congr (fun a ha => rN_congr hp (NF_en _) _ (fun j hj m hr hs q => ?_) q)
  have := mu_lt hw h2 h4 hx hp ha hj hs hr
  exact NF_stab hw h2 h4 (17 * e + 16) _ m (rl_lt h2 hx ha hj hs) (Run_bd hp hr).2.1 (by omega) _ _ (by omega) (by omega) q
/-! capped numbers -/
def cp (n : Nat) : Nat := min 1000000000 n
theorem cp_le (n : Nat) : cp n ≤ 1000000000 := by unfold cp; omega
theorem cp_add (a b : Nat) : cp (cp a + b) = cp (a + b) := by unfold cp; omega
theorem cp_addr (a b : Nat) : cp (a + cp b) = cp (a + b) := by unfold cp; omega
theorem cp_cp (a : Nat) : cp (cp a) = cp a := by unfold cp; omega
theorem cp_0 : cp 0 = 0 := rfl
theorem cp_1 : cp 1 = 1 := rfl
theorem cp_eq0 {a : Nat} : cp a = 0 ↔ a = 0 := by unfold cp; omega
theorem cp_mulr (a b : Nat) : cp (a * cp b) = cp (a * b) := by
  by_cases h : b ≤ 1000000000
  · have : cp b = b := by unfold cp; omega
    rw [this]
  · have : cp b = 1000000000 := by unfold cp; omega
    rw [this]
    rcases Nat.eq_zero_or_pos a with h0 | h0
    · subst h0; simp
    · have h1 : 1 * 1000000000 ≤ a * 1000000000 := Nat.mul_le_mul_right _ h0
      have h2 : 1 * b ≤ a * b := Nat.mul_le_mul_right _ h0
      unfold cp; omega
theorem cp_mull (a b : Nat) : cp (cp a * b) = cp (a * b) := by rw [Nat.mul_comm, cp_mulr, Nat.mul_comm]
theorem cp_mul (a b : Nat) : cp (cp a * cp b) = cp (a * b) := by rw [cp_mull, cp_mulr]
theorem cp_bd (a b : Nat) : cp a * cp b ≤ 1000000000000000000 := Nat.mul_le_mul (cp_le a) (cp_le b)
