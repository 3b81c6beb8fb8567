/-! what a grammar makes of tokens: places, touched places, tokens that may come -/
def syE (B : Nat → Nat → Nat → Prop) (T : Nat → Int) (e : Nat) (z : Int) (p q : Nat) : Prop := (0 ≤ z ∧ p < e ∧ T p = z ∧ q = p + 1) ∨ (z < 0 ∧ B (rl z) p q)
def runE (g : Gr) (B : Nat → Nat → Nat → Prop) (T : Nat → Int) (e row : Nat) : Nat → Nat → Nat → Prop
  | 0 => fun p q => q = p
  | k + 1 => fun p q => ∃ m, runE g B T e row k p m ∧ syE B T e (gY g row k) m q
def ClosedE (g : Gr) (T : Nat → Int) (e : Nat) (B : Nat → Nat → Nat → Prop) : Prop := ∀ x, x < gR g → ∀ a, a < gA g x → ∀ p q, p ≤ e → runE g B T e (8 * x + a) (gL g (8 * x + a)) p q → B x p q
def En (g : Gr) (T : Nat → Int) (e x p q : Nat) : Prop := ∀ B, ClosedE g T e B → B x p q
def Run (g : Gr) (T : Nat → Int) (e row k p q : Nat) : Prop := runE g (En g T e) T e row k p q
theorem syE_mono {B B' : Nat → Nat → Nat → Prop} (h : ∀ x p q, B x p q → B' x p q) {T : Nat → Int} {e : Nat} {z : Int} {p q : Nat} (hs : syE B T e z p q) : syE B' T e z p q := hs.elim .inl (fun q => .inr ⟨q.1, h _ _ _ q.2⟩)
theorem runE_mono {g : Gr} {B B' : Nat → Nat → Nat → Prop} (h : ∀ x p q, B x p q → B' x p q) {T : Nat → Int} {e row : Nat} (k : Nat) : ∀ p q, runE g B T e row k p q → runE g B' T e row k p q := by
  induction k with
  | zero => intro p q hr; exact hr
  | succ k ih => rintro p q ⟨m, h1, h2⟩; exact ⟨m, ih p m h1, syE_mono h h2⟩
theorem En_closed (g : Gr) (T : Nat → Int) (e : Nat) : ClosedE g T e (En g T e) := fun x hx a ha p q hp hr B hB => hB x hx a ha p q hp (runE_mono (fun _ _ _ w => w B hB) _ p q hr)
theorem runE_bd {g : Gr} {B : Nat → Nat → Nat → Prop} {T : Nat → Int} {e row : Nat} (hB : ∀ x p q, B x p q → p ≤ q ∧ q ≤ e ∧ (p = q → Nul g x)) (k : Nat) : ∀ p q, p ≤ e → runE g B T e row k p q → p ≤ q ∧ q ≤ e ∧ (p = q → ∀ j, j < k → nulS g (gY g row j)) := by
  induction k with
  | zero => intro p q hp hr; have hr : q = p := hr; exact ⟨by omega, by omega, fun _ j h => by omega⟩
  | succ k ih =>
    rintro p q hp ⟨m, h1, h2⟩
    obtain ⟨a1, a2, a3⟩ := ih p m hp h1
    rcases h2 with ⟨b1, b2, b3, b4⟩ | ⟨b1, b2⟩
    · exact ⟨by omega, by omega, fun h => by omega⟩
    · obtain ⟨c1, c2, c3⟩ := hB _ _ _ b2
      refine ⟨by omega, by omega, fun h j hj => ?_⟩
      have : m = q := by omega
      by_cases ej : j = k
      · rw [ej]; exact ⟨b1, c3 this⟩
      · exact a3 (by omega) j (by omega)
theorem En_bd {g : Gr} {T : Nat → Int} {e x p q : Nat} (h : En g T e x p q) : x < gR g ∧ p ≤ q ∧ q ≤ e ∧ (p = q → Nul g x) := by
  refine h (fun x p q => x < gR g ∧ p ≤ q ∧ q ≤ e ∧ (p = q → Nul g x)) ?_
  intro x hx a ha p q hp hr
  obtain ⟨a1, a2, a3⟩ := runE_bd (g := g) (T := T) (e := e) (fun _ _ _ w => w.2) _ p q hp hr
  exact ⟨hx, a1, a2, fun h => Nul_closed g x hx a ha (fun j _ hj => a3 h j hj)⟩
theorem Run_bd {g : Gr} {T : Nat → Int} {e row k p q : Nat} (hp : p ≤ e) (h : Run g T e row k p q) : p ≤ q ∧ q ≤ e ∧ (p = q → ∀ j, j < k → nulS g (gY g row j)) :=
  runE_bd (fun _ _ _ w => (En_bd w).2) k p q hp h
theorem En_iff {g : Gr} {T : Nat → Int} {e x : Nat} (hx : x < gR g) {p : Nat} (hp : p ≤ e) (q : Nat) : En g T e x p q ↔ ∃ a, a < gA g x ∧ Run g T e (8 * x + a) (gL g (8 * x + a)) p q := by
  constructor
  · intro h
    refine (h (fun x p q => En g T e x p q ∧ ∃ a, a < gA g x ∧ Run g T e (8 * x + a) (gL g (8 * x + a)) p q) ?_).2
    intro y hy a ha p q hp hr
    have hr := runE_mono (B' := En g T e) (fun _ _ _ w => w.1) _ p q hr
    exact ⟨En_closed g T e y hy a ha p q hp hr, a, ha, hr⟩
  · rintro ⟨a, ha, h⟩; exact En_closed g T e x hx a ha p q hp h
theorem Run_left {g : Gr} {T : Nat → Int} {e x a k p : Nat} (hp : p ≤ e) (ha : a < gA g x) (hk : k < gL g (8 * x + a)) (hs : gY g (8 * x + a) k < 0) (h : Run g T e (8 * x + a) k p p) : Lf0 g x (rl (gY g (8 * x + a) k)) :=
  ⟨a, ha, k, hk, hs, rfl, (Run_bd hp h).2.2 rfl⟩
theorem Run_s {g : Gr} {T : Nat → Int} {e row k p q : Nat} : Run g T e row (k + 1) p q ↔ ∃ m, Run g T e row k p m ∧ syE (En g T e) T e (gY g row k) m q := Iff.rfl
theorem Run_0 {g : Gr} {T : Nat → Int} {e row p q : Nat} : Run g T e row 0 p q ↔ q = p := Iff.rfl
theorem Run_none {g : Gr} {T : Nat → Int} {e row p : Nat} {k : Nat} (h : ∀ q, ¬ Run g T e row k p q) (d : Nat) : ∀ q, ¬ Run g T e row (k + d) p q := by
  induction d with
  | zero => exact h
  | succ d ih => rintro q ⟨m, h1, _⟩; exact ih m h1
/-! a shorter end -/
theorem runE_cut {g : Gr} {T : Nat → Int} {e n row : Nat} (hen : e ≤ n) (k : Nat) {B B' : Nat → Nat → Nat → Prop} (hB : ∀ x p q, B x p q → p ≤ q) (h : ∀ x p q, B x p q → q ≤ e → B' x p q) :
    ∀ p q, runE g B T n row k p q → q ≤ e → runE g B' T e row k p q ∧ p ≤ q := by
  induction k with
  | zero => intro p q hr _; exact ⟨hr, by have hr : q = p := hr; omega⟩
  | succ k ih =>
    rintro p q ⟨m, h1, h2⟩ hq
    have hm : m ≤ q := by
      rcases h2 with ⟨_, _, _, b⟩ | ⟨_, b⟩
      · omega
      · exact hB _ _ _ b
    obtain ⟨i1, i2⟩ := ih p m h1 (by omega)
    refine ⟨⟨m, i1, ?_⟩, by omega⟩
    rcases h2 with ⟨b1, b2, b3, b4⟩ | ⟨b1, b2⟩
    · exact .inl ⟨b1, by omega, b3, b4⟩
    · exact .inr ⟨b1, h _ _ _ b2 hq⟩
theorem runE_wide {g : Gr} {T : Nat → Int} {e n row : Nat} (hen : e ≤ n) (k : Nat) {B : Nat → Nat → Nat → Prop} : ∀ p q, runE g B T e row k p q → runE g B T n row k p q := by
  induction k with
  | zero => intro p q hr; exact hr
  | succ k ih =>
    rintro p q ⟨m, h1, h2⟩
    refine ⟨m, ih p m h1, ?_⟩
    rcases h2 with ⟨b1, b2, b3, b4⟩ | h2
    · exact .inl ⟨b1, by omega, b3, b4⟩
    · exact .inr h2
theorem runE_le {g : Gr} {B : Nat → Nat → Nat → Prop} {T : Nat → Int} {e row : Nat} (hB : ∀ x p q, B x p q → p ≤ q) (k : Nat) : ∀ p q, runE g B T e row k p q → p ≤ q := by
  induction k with
  | zero => intro p q hr; have hr : q = p := hr; omega
  | succ k ih =>
    rintro p q ⟨m, h1, h2⟩
    have := ih p m h1
    rcases h2 with ⟨_, _, _, b⟩ | ⟨_, b⟩
    · omega
    · have := hB _ _ _ b; omega
theorem En_cut {g : Gr} {T : Nat → Int} {e n : Nat} (hen : e ≤ n) (x p q : Nat) : En g T e x p q ↔ En g T n x p q ∧ q ≤ e := by
  constructor
  · intro h
    refine ⟨h (fun x p q => En g T n x p q) ?_, (En_bd h).2.2.1⟩
    intro x hx a ha p q hp hr
    exact En_closed g T n x hx a ha p q (by omega) (runE_wide hen _ p q hr)
  · rintro ⟨h, hq⟩
    refine (h (fun x p q => p ≤ q ∧ (q ≤ e → En g T e x p q)) ?_).2 hq
    intro x hx a ha p q hp hr
    refine ⟨runE_le (fun _ _ _ w => w.1) _ p q hr, fun hq => ?_⟩
    have hpq := runE_le (fun _ _ _ w => w.1) _ p q hr
    exact En_closed g T e x hx a ha p q (by omega) ((runE_cut hen _ (fun _ _ _ w => w.1) (fun _ _ _ w => w.2) p q hr hq).1)
theorem Run_cut {g : Gr} {T : Nat → Int} {e n row k p q : Nat} (hen : e ≤ n) : Run g T e row k p q ∧ p ≤ e ↔ Run g T n row k p q ∧ q ≤ e := by
  constructor
  · rintro ⟨h, hp⟩
    exact ⟨runE_mono (fun x p q w => ((En_cut hen x p q).mp w).1) k p q (runE_wide hen k p q h), (Run_bd hp h).2.1⟩
  · rintro ⟨h, hq⟩
    obtain ⟨h1, h2⟩ := runE_cut hen k (fun _ _ _ w => (En_bd w).2.1) (fun x p q w hq => (En_cut hen x p q).mpr ⟨w, hq⟩) p q h hq
    exact ⟨h1, by omega⟩
/-! the greatest place of a set -/
noncomputable def mx (S : Nat → Prop) : Nat → Nat
  | 0 => 0
  | e + 1 => @ite _ (S (e + 1)) (Classical.propDecidable _) (e + 1) (mx S e)
theorem mx_le (S : Nat → Prop) (e : Nat) : mx S e ≤ e := by
  induction e with
  | zero => exact Nat.le_refl _
  | succ e ih => unfold mx; split <;> omega
theorem mx_in {S : Nat → Prop} {e m : Nat} (hm : m ≤ e) (h : S m) : S (mx S e) ∧ m ≤ mx S e := by
  induction e with
  | zero => have : m = 0 := by omega
            subst this; exact ⟨h, Nat.le_refl _⟩
  | succ e ih =>
    unfold mx
    by_cases q : S (e + 1)
    · rw [if_pos q]; exact ⟨q, by omega⟩
    · rw [if_neg q]
      by_cases e1 : m = e + 1
      · subst e1; exact absurd h q
      · exact ih (by omega)
theorem mx_eq {S : Nat → Prop} {e v : Nat} (hv : v ≤ e) (h : S v) (h2 : ∀ m, m ≤ e → S m → m ≤ v) : mx S e = v := by
  obtain ⟨h3, h4⟩ := mx_in hv h
  have := h2 _ (mx_le S e) h3
  omega
theorem mx_congr {S S' : Nat → Prop} (h : ∀ m, S m ↔ S' m) (e : Nat) : mx S e = mx S' e := by
  have : S = S' := funext (fun m => propext (h m))
  rw [this]
/-- the greater of two: of a union -/
theorem mx_or {S S' : Nat → Prop} {e m m' : Nat} (hm : m ≤ e) (h : S m) (hm' : m' ≤ e) (h' : S' m') : mx (fun i => S i ∨ S' i) e = max (mx S e) (mx S' e) := by
  obtain ⟨a1, a2⟩ := mx_in hm h
  obtain ⟨b1, b2⟩ := mx_in hm' h'
  refine mx_eq (by have := mx_le S e; have := mx_le S' e; omega) ?_ ?_
  · by_cases q : mx S e ≤ mx S' e
    · rw [Nat.max_eq_right q]; exact .inr b1
    · rw [Nat.max_eq_left (by omega)]; exact .inl a1
  · rintro i hi (w | w)
    · have := (mx_in hi w).2; omega
    · have := (mx_in hi w).2; omega
/-! touched places -/
def rowTB (g : Gr) (B : Nat → Nat → Nat → Prop) (T : Nat → Int) (e row k p m : Nat) : Prop := ∃ j, j ≤ k ∧ (Run g T e row j p m ∨ (j < k ∧ gY g row j < 0 ∧ ∃ i, Run g T e row j p i ∧ B (rl (gY g row j)) i m))
def ClosedTc (g : Gr) (T : Nat → Int) (e : Nat) (B : Nat → Nat → Nat → Prop) : Prop := ∀ x, x < gR g → ∀ p m, p ≤ e → (m = p ∨ ∃ a, a < gA g x ∧ rowTB g B T e (8 * x + a) (gL g (8 * x + a)) p m) → B x p m
def Tc (g : Gr) (T : Nat → Int) (e x p m : Nat) : Prop := ∀ B, ClosedTc g T e B → B x p m
def rowT (g : Gr) (T : Nat → Int) (e row k p m : Nat) : Prop := rowTB g (Tc g T e) T e row k p m
theorem rowTB_mono {g : Gr} {B B' : Nat → Nat → Nat → Prop} (h : ∀ x p q, B x p q → B' x p q) {T : Nat → Int} {e row k p m : Nat} (hr : rowTB g B T e row k p m) : rowTB g B' T e row k p m := by
  obtain ⟨j, h1, h2⟩ := hr
  exact ⟨j, h1, h2.elim .inl (fun ⟨a1, a2, i, a3, a4⟩ => .inr ⟨a1, a2, i, a3, h _ _ _ a4⟩)⟩
theorem Tc_closed (g : Gr) (T : Nat → Int) (e : Nat) : ClosedTc g T e (Tc g T e) := fun x hx p m hp hr B hB => hB x hx p m hp (hr.elim .inl (fun ⟨a, h1, h2⟩ => .inr ⟨a, h1, rowTB_mono (fun _ _ _ w => w B hB) h2⟩))
theorem Tc_iff {g : Gr} {T : Nat → Int} {e x : Nat} (hx : x < gR g) {p : Nat} (hp : p ≤ e) (m : Nat) : Tc g T e x p m ↔ (m = p ∨ ∃ a, a < gA g x ∧ rowT g T e (8 * x + a) (gL g (8 * x + a)) p m) := by
  constructor
  · intro h
    refine (h (fun x p m => Tc g T e x p m ∧ (m = p ∨ ∃ a, a < gA g x ∧ rowT g T e (8 * x + a) (gL g (8 * x + a)) p m)) ?_).2
    intro y hy p m hp hr
    have hr : (m = p ∨ ∃ a, a < gA g y ∧ rowT g T e (8 * y + a) (gL g (8 * y + a)) p m) := hr.elim .inl (fun ⟨a, h1, h2⟩ => .inr ⟨a, h1, rowTB_mono (fun _ _ _ w => w.1) h2⟩)
    exact ⟨Tc_closed g T e y hy p m hp hr, hr⟩
  · exact Tc_closed g T e x hx p m hp
theorem rowTB_bd {g : Gr} {e : Nat} {B : Nat → Nat → Nat → Prop} (hB : ∀ x p q, B x p q → p ≤ q ∧ q ≤ e) {T : Nat → Int} {row k p m : Nat} (hp : p ≤ e) (hr : rowTB g B T e row k p m) : p ≤ m ∧ m ≤ e := by
  obtain ⟨j, h1, h2 | ⟨a1, a2, i, a3, a4⟩⟩ := hr
  · have := Run_bd hp h2; exact ⟨this.1, this.2.1⟩
  · have h3 := Run_bd hp a3
    have := hB _ _ _ a4
    exact ⟨by omega, by omega⟩
theorem Tc_bd {g : Gr} {T : Nat → Int} {e x p m : Nat} (h : Tc g T e x p m) : x < gR g ∧ p ≤ m ∧ m ≤ e := by
  refine h (fun x p m => x < gR g ∧ p ≤ m ∧ m ≤ e) ?_
  rintro y hy p m hp (h | ⟨a, ha, h⟩)
  · omega
  · have := rowTB_bd (e := e) (fun _ _ _ w => w.2) hp h; omega
theorem rowT_bd {g : Gr} {T : Nat → Int} {e row k p m : Nat} (hp : p ≤ e) (hr : rowT g T e row k p m) : p ≤ m ∧ m ≤ e := rowTB_bd (fun _ _ _ w => (Tc_bd w).2) hp hr
theorem Tc_of_En {g : Gr} {T : Nat → Int} {e x p q : Nat} (h : En g T e x p q) : Tc g T e x p q := by
  obtain ⟨hx, h1, h2, _⟩ := En_bd h
  have hp : p ≤ e := by omega
  obtain ⟨a, ha, hr⟩ := (En_iff hx hp q).mp h
  exact (Tc_iff hx hp q).mpr (.inr ⟨a, ha, _, Nat.le_refl _, .inl hr⟩)
theorem Tc_self {g : Gr} {T : Nat → Int} {e x p : Nat} (hx : x < gR g) (hp : p ≤ e) : Tc g T e x p p := (Tc_iff hx hp p).mpr (.inl rfl)
theorem rowT_0 {g : Gr} {T : Nat → Int} {e row p m : Nat} : rowT g T e row 0 p m ↔ m = p := by
  constructor
  · rintro ⟨j, h1, h2 | ⟨a1, _⟩⟩
    · have : j = 0 := by omega
      subst this; exact h2
    · omega
  · intro h; exact ⟨0, by omega, .inl h⟩
theorem rowT_self {g : Gr} {T : Nat → Int} {e row k p : Nat} : rowT g T e row k p p := ⟨0, by omega, .inl rfl⟩
theorem rowT_s {g : Gr} {T : Nat → Int} {e row k p m : Nat} : rowT g T e row (k + 1) p m ↔ (rowT g T e row k p m ∨ Run g T e row (k + 1) p m ∨ (gY g row k < 0 ∧ ∃ i, Run g T e row k p i ∧ Tc g T e (rl (gY g row k)) i m)) := by
  constructor
  · rintro ⟨j, h1, h2⟩
    by_cases e1 : j = k + 1
    · subst e1
      rcases h2 with h2 | ⟨a1, _⟩
      · exact .inr (.inl h2)
      · omega
    · by_cases e2 : j = k
      · subst e2
        rcases h2 with h2 | ⟨a1, a2, a3⟩
        · exact .inl ⟨j, by omega, .inl h2⟩
        · exact .inr (.inr ⟨a2, a3⟩)
      · exact .inl ⟨j, by omega, h2.elim .inl (fun ⟨a1, a2⟩ => .inr ⟨by omega, a2⟩)⟩
  · rintro (⟨j, h1, h2⟩ | h | ⟨h1, h2⟩)
    · exact ⟨j, by omega, h2.elim .inl (fun ⟨a1, a2⟩ => .inr ⟨by omega, a2⟩)⟩
    · exact ⟨k + 1, by omega, .inl h⟩
    · exact ⟨k, by omega, .inr ⟨by omega, h1, h2⟩⟩
theorem rowT_none {g : Gr} {T : Nat → Int} {e row p m k : Nat} (h : ∀ q, ¬ Run g T e row k p q) (d : Nat) : rowT g T e row (k + d) p m ↔ rowT g T e row k p m := by
  induction d with
  | zero => exact Iff.rfl
  | succ d ih =>
    rw [← Nat.add_assoc, rowT_s, ih]
    constructor
    · rintro (h1 | h1 | ⟨_, i, h1, _⟩)
      · exact h1
      · exact absurd h1 (Run_none h (d + 1) m)
      · exact absurd h1 (Run_none h d i)
    · exact .inl
noncomputable def far (g : Gr) (T : Nat → Int) (e x p : Nat) : Nat := mx (Tc g T e x p) e
noncomputable def rfar (g : Gr) (T : Nat → Int) (e row k p : Nat) : Nat := mx (rowT g T e row k p) e
/-! tokens that may come at the end -/
def rowSB (g : Gr) (B : Nat → Nat → Nat → Prop) (T : Nat → Int) (e row k p t : Nat) : Prop := ∃ j, j < k ∧ ∃ m, Run g T e row j p m ∧ ((0 ≤ gY g row j ∧ m = e ∧ gY g row j = t) ∨ (gY g row j < 0 ∧ B (rl (gY g row j)) m t))
def ClosedSn (g : Gr) (T : Nat → Int) (e : Nat) (B : Nat → Nat → Nat → Prop) : Prop := ∀ x, x < gR g → ∀ p t, p ≤ e → (∃ a, a < gA g x ∧ rowSB g B T e (8 * x + a) (gL g (8 * x + a)) p t) → B x p t
def Sn (g : Gr) (T : Nat → Int) (e x p t : Nat) : Prop := ∀ B, ClosedSn g T e B → B x p t
def rowS (g : Gr) (T : Nat → Int) (e row k p t : Nat) : Prop := rowSB g (Sn g T e) T e row k p t
theorem rowSB_mono {g : Gr} {B B' : Nat → Nat → Nat → Prop} (h : ∀ x p q, B x p q → B' x p q) {T : Nat → Int} {e row k p t : Nat} (hr : rowSB g B T e row k p t) : rowSB g B' T e row k p t := by
  obtain ⟨j, h1, m, h2, h3⟩ := hr
  exact ⟨j, h1, m, h2, h3.elim .inl (fun w => .inr ⟨w.1, h _ _ _ w.2⟩)⟩
theorem Sn_closed (g : Gr) (T : Nat → Int) (e : Nat) : ClosedSn g T e (Sn g T e) := fun x hx p t hp ⟨a, h1, h2⟩ B hB => hB x hx p t hp ⟨a, h1, rowSB_mono (fun _ _ _ w => w B hB) h2⟩
theorem Sn_iff {g : Gr} {T : Nat → Int} {e x : Nat} (hx : x < gR g) {p : Nat} (hp : p ≤ e) (t : Nat) : Sn g T e x p t ↔ ∃ a, a < gA g x ∧ rowS g T e (8 * x + a) (gL g (8 * x + a)) p t := by
  constructor
  · intro h
    refine (h (fun x p t => Sn g T e x p t ∧ ∃ a, a < gA g x ∧ rowS g T e (8 * x + a) (gL g (8 * x + a)) p t) ?_).2
    intro y hy p t hp ⟨a, ha, hr⟩
    have hr : rowS g T e (8 * y + a) (gL g (8 * y + a)) p t := rowSB_mono (fun _ _ _ w => w.1) hr
    exact ⟨Sn_closed g T e y hy p t hp ⟨a, ha, hr⟩, a, ha, hr⟩
  · exact Sn_closed g T e x hx p t hp
theorem rowS_0 {g : Gr} {T : Nat → Int} {e row p t : Nat} : ¬ rowS g T e row 0 p t := fun ⟨j, h, _⟩ => by omega
theorem rowS_s {g : Gr} {T : Nat → Int} {e row k p t : Nat} : rowS g T e row (k + 1) p t ↔ (rowS g T e row k p t ∨ ∃ m, Run g T e row k p m ∧ ((0 ≤ gY g row k ∧ m = e ∧ gY g row k = t) ∨ (gY g row k < 0 ∧ Sn g T e (rl (gY g row k)) m t))) := by
  constructor
  · rintro ⟨j, h1, h2⟩
    by_cases e1 : j = k
    · subst e1; exact .inr h2
    · exact .inl ⟨j, by omega, h2⟩
  · rintro (⟨j, h1, h2⟩ | h)
    · exact ⟨j, by omega, h2⟩
    · exact ⟨k, by omega, h⟩
theorem rowS_none {g : Gr} {T : Nat → Int} {e row p t k : Nat} (h : ∀ q, ¬ Run g T e row k p q) (d : Nat) : rowS g T e row (k + d) p t ↔ rowS g T e row k p t := by
  induction d with
  | zero => exact Iff.rfl
  | succ d ih =>
    rw [← Nat.add_assoc, rowS_s, ih]
    exact ⟨fun w => w.elim id (fun ⟨m, h1, _⟩ => absurd h1 (Run_none h d m)), .inl⟩
/-! which entries a row looks at -/
def Ok (g : Gr) (e : Nat) (o : Nat → Nat) (p j y q : Nat) : Prop := y < gR g ∧ q ≤ e ∧ (p < q ∨ (q = p ∧ ∃ i, i < j ∧ o i = y))
theorem need_ok {g : Gr} {T : Nat → Int} {e : Nat} {o : Nat → Nat} {p j x a k m : Nat} (h2 : NoF (F2 g) (gR g)) (ht : Topo g o) (hj : j < gR g) (hx : o j = x) (hp : p ≤ e) (ha : a < gA g x) (hk : k < gL g (8 * x + a)) (hs : gY g (8 * x + a) k < 0)
    (hr : Run g T e (8 * x + a) k p m) : Ok g e o p j (rl (gY g (8 * x + a) k)) m := by
  have hxR : x < gR g := hx ▸ ht.1 j hj
  obtain ⟨b1, b2, b3⟩ := Run_bd hp hr
  refine ⟨rl_lt h2 hxR ha hk hs, b2, ?_⟩
  by_cases q : p < m
  · exact .inl q
  · have e1 : m = p := by omega
    subst e1
    refine .inr ⟨rfl, ?_⟩
    exact ht.2.2 j hj _ (by rw [hx]; exact Lf_of (Run_left hp ha hk hs hr))
