/-! how far what is to come reaches -/
noncomputable def fth (f : Nat) (S : Nat → Prop) (b : Nat → Nat) (e : Nat) : Nat := mx (fun v => v = f ∨ ∃ m, S m ∧ b m = v) (e + 1)
theorem fth_le {f : Nat} {S : Nat → Prop} {b : Nat → Nat} {e V : Nat} (hf : f ≤ e + 1) (h1 : f ≤ V) (h2 : ∀ m, S m → b m ≤ V) : fth f S b e ≤ V := by
  rcases (mx_in (S := fun v => v = f ∨ ∃ m, S m ∧ b m = v) hf (.inl rfl)).1 with h | ⟨m, h3, h4⟩
  · unfold fth; omega
  · have := h2 m h3; unfold fth; omega
theorem fth_bd (f : Nat) (S : Nat → Prop) (b : Nat → Nat) (e : Nat) : fth f S b e ≤ e + 1 := mx_le _ _
theorem le_fth1 {f : Nat} {S : Nat → Prop} {b : Nat → Nat} {e : Nat} (hf : f ≤ e + 1) : f ≤ fth f S b e := (mx_in (S := fun v => v = f ∨ ∃ m, S m ∧ b m = v) hf (.inl rfl)).2
theorem le_fth2 {f : Nat} {S : Nat → Prop} {b : Nat → Nat} {e m : Nat} (hm : S m) (hb : b m ≤ e + 1) : b m ≤ fth f S b e := (mx_in (S := fun v => v = f ∨ ∃ m, S m ∧ b m = v) hb (.inr ⟨m, hm, rfl⟩)).2
theorem fth_in {f : Nat} {S : Nat → Prop} {b : Nat → Nat} {e : Nat} (hf : f ≤ e + 1) : fth f S b e = f ∨ ∃ m, S m ∧ b m = fth f S b e := (mx_in (S := fun v => v = f ∨ ∃ m, S m ∧ b m = v) hf (.inl rfl)).1
theorem fth_congr {f : Nat} {S S' : Nat → Prop} {b b' : Nat → Nat} {e : Nat} (h : ∀ m, S m ↔ S' m) (hb : ∀ m, S m → b m = b' m) : fth f S b e = fth f S' b' e := by
  refine mx_congr (fun v => ?_) (e + 1)
  constructor
  · rintro (h1 | ⟨m, h1, h2⟩)
    · exact .inl h1
    · exact .inr ⟨m, (h m).mp h1, by rw [← hb m h1]; exact h2⟩
  · rintro (h1 | ⟨m, h1, h2⟩)
    · exact .inl h1
    · exact .inr ⟨m, (h m).mpr h1, by rw [hb m ((h m).mpr h1)]; exact h2⟩
noncomputable def RR (g : Gr) (T : Nat → Int) (e : Nat) : List Int → Nat → Nat
  | [] => fun q => if q = e then e + 1 else q
  | z :: l => fun q => if 0 ≤ z then (if q < e ∧ T q = z then RR g T e l (q + 1) else q) else fth (far g T e (rl z) q) (En g T e (rl z) q) (RR g T e l) e
def LV (g : Gr) (l : List Int) : Prop := ∀ z, z ∈ l → z < 0 → rl z < gR g
theorem LV_t {g : Gr} {z : Int} {l : List Int} (h : LV g (z :: l)) : LV g l := fun y hy => h y (List.mem_cons_of_mem _ hy)
theorem LV_h {g : Gr} {z : Int} {l : List Int} (h : LV g (z :: l)) (hz : z < 0) : rl z < gR g := h z (List.mem_cons_self) hz
theorem RR_nil {g : Gr} {T : Nat → Int} {e q : Nat} : RR g T e [] q = if q = e then e + 1 else q := rfl
theorem RR_tok {g : Gr} {T : Nat → Int} {e q : Nat} {z : Int} {l : List Int} (hz : 0 ≤ z) : RR g T e (z :: l) q = if q < e ∧ T q = z then RR g T e l (q + 1) else q := by
  show (if 0 ≤ z then _ else _) = _
  rw [if_pos hz]
theorem RR_rul {g : Gr} {T : Nat → Int} {e q : Nat} {z : Int} {l : List Int} (hz : z < 0) : RR g T e (z :: l) q = fth (far g T e (rl z) q) (En g T e (rl z) q) (RR g T e l) e := by
  show (if 0 ≤ z then _ else _) = _
  rw [if_neg (by omega)]
theorem far_bd {g : Gr} {T : Nat → Int} {e x q : Nat} (hx : x < gR g) (hq : q ≤ e) : q ≤ far g T e x q ∧ far g T e x q ≤ e := ⟨(mx_in hq (Tc_self hx hq)).2, mx_le _ _⟩
theorem RR_bd {g : Gr} {T : Nat → Int} {e : Nat} (l : List Int) : LV g l → ∀ q, q ≤ e → q ≤ RR g T e l q ∧ RR g T e l q ≤ e + 1 := by
  induction l with
  | nil => intro _ q hq; rw [RR_nil]; split <;> omega
  | cons z l ih =>
    intro hl q hq
    by_cases hz : 0 ≤ z
    · rw [RR_tok hz]
      split
      · have := ih (LV_t hl) (q + 1) (by omega); omega
      · omega
    · rw [RR_rul (by omega)]
      have hb := far_bd (g := g) (T := T) (e := e) (LV_h hl (by omega)) hq
      have := le_fth1 (f := far g T e (rl z) q) (S := En g T e (rl z) q) (b := RR g T e l) (e := e) (by omega)
      exact ⟨by omega, fth_bd _ _ _ _⟩
theorem Gd_nil {g : Gr} {T : Nat → Int} {e q : Nat} (hq : q ≤ e) : RR g T e [] q = e + 1 ↔ q = e := by
  rw [RR_nil]; split <;> omega
theorem Gd_cons {g : Gr} {T : Nat → Int} {e q : Nat} {z : Int} {l : List Int} (hl : LV g (z :: l)) (hq : q ≤ e) : RR g T e (z :: l) q = e + 1 ↔ ∃ m, syE (En g T e) T e z q m ∧ RR g T e l m = e + 1 := by
  by_cases hz : 0 ≤ z
  · rw [RR_tok hz]
    constructor
    · intro h
      by_cases c : q < e ∧ T q = z
      · rw [if_pos c] at h; exact ⟨q + 1, .inl ⟨hz, c.1, c.2, rfl⟩, h⟩
      · rw [if_neg c] at h; omega
    · rintro ⟨m, ⟨b1, b2, b3, b4⟩ | ⟨b1, _⟩, h⟩
      · rw [if_pos ⟨b2, b3⟩, ← b4]; exact h
      · omega
  · have hb := far_bd (g := g) (T := T) (e := e) (LV_h hl (by omega)) hq
    rw [RR_rul (by omega)]
    constructor
    · intro h
      rcases fth_in (f := far g T e (rl z) q) (S := En g T e (rl z) q) (b := RR g T e l) (e := e) (by omega) with h1 | ⟨m, h1, h2⟩
      · omega
      · exact ⟨m, .inr ⟨by omega, h1⟩, by omega⟩
    · rintro ⟨m, ⟨b1, _⟩ | ⟨b1, b2⟩, h⟩
      · omega
      · have h1 := le_fth2 (f := far g T e (rl z) q) (S := En g T e (rl z) q) (b := RR g T e l) (e := e) b2 (by omega)
        have h2 := fth_bd (far g T e (rl z) q) (En g T e (rl z) q) (RR g T e l) e
        omega
/-- what a step over a symbol touches -/
def tch (g : Gr) (T : Nat → Int) (e f : Nat) (S : Nat → Prop) (z : Int) (v : Nat) : Prop := v = f ∨ S v ∨ (0 ≤ z ∧ ∃ q, S q ∧ q < e ∧ T q = z ∧ v = q + 1) ∨ (z < 0 ∧ ∃ q, S q ∧ Tc g T e (rl z) q v)
def stS (g : Gr) (T : Nat → Int) (e : Nat) (S : Nat → Prop) (z : Int) (m : Nat) : Prop := ∃ q, S q ∧ syE (En g T e) T e z q m
theorem tch_bd {g : Gr} {T : Nat → Int} {e f : Nat} {S : Nat → Prop} {z : Int} {v : Nat} (hf : f ≤ e) (hS : ∀ q, S q → q ≤ e) (h : tch g T e f S z v) : v ≤ e := by
  rcases h with h | h | ⟨_, q, h1, h2, h3, h4⟩ | ⟨_, q, h1, h2⟩
  · omega
  · exact hS v h
  · omega
  · exact (Tc_bd h2).2.2
theorem stS_bd {g : Gr} {T : Nat → Int} {e : Nat} {S : Nat → Prop} {z : Int} {m : Nat} (h : stS g T e S z m) : m ≤ e := by
  obtain ⟨q, h1, ⟨_, h2, _, h4⟩ | ⟨_, h2⟩⟩ := h
  · omega
  · exact (En_bd h2).2.2.1
theorem fth_step {g : Gr} {T : Nat → Int} {e f : Nat} {S : Nat → Prop} {z : Int} {l : List Int} (hl : LV g (z :: l)) (hf : f ≤ e) (hS : ∀ q, S q → q ≤ e) :
    fth f S (RR g T e (z :: l)) e = fth (mx (tch g T e f S z) e) (stS g T e S z) (RR g T e l) e := by
  have hf' := mx_le (tch g T e f S z) e
  have hin := mx_in (S := tch g T e f S z) hf (.inl rfl)
  have htc : ∀ v, tch g T e f S z v → v ≤ mx (tch g T e f S z) e := fun v hv => (mx_in (tch_bd hf hS hv) hv).2
  have A1 : ∀ q, S q → RR g T e (z :: l) q ≤ fth f S (RR g T e (z :: l)) e := fun q hq => le_fth2 hq (RR_bd _ hl q (hS q hq)).2
  have B1 : mx (tch g T e f S z) e ≤ fth (mx (tch g T e f S z) e) (stS g T e S z) (RR g T e l) e := le_fth1 (by omega)
  have B2 : ∀ m, stS g T e S z m → RR g T e l m ≤ fth (mx (tch g T e f S z) e) (stS g T e S z) (RR g T e l) e := fun m hm => le_fth2 hm (RR_bd _ (LV_t hl) m (stS_bd hm)).2
  refine Nat.le_antisymm (fth_le (by omega) (by omega) (fun q hq => ?_)) (fth_le (by omega) ?_ (fun m hm => ?_))
  · by_cases hz : 0 ≤ z
    · rw [RR_tok hz]
      by_cases c : q < e ∧ T q = z
      · rw [if_pos c]; exact B2 (q + 1) ⟨q, hq, .inl ⟨hz, c.1, c.2, rfl⟩⟩
      · rw [if_neg c]; exact Nat.le_trans (htc q (.inr (.inl hq))) B1
    · have hzn : z < 0 := by omega
      have hb := far_bd (g := g) (T := T) (e := e) (LV_h hl hzn) (hS q hq)
      rw [RR_rul hzn]
      refine fth_le (by omega) (Nat.le_trans (htc _ (.inr (.inr (.inr ⟨hzn, q, hq, ?_⟩)))) B1) (fun m hm => B2 m ⟨q, hq, .inr ⟨hzn, hm⟩⟩)
      exact (mx_in (hS q hq) (Tc_self (LV_h hl hzn) (hS q hq))).1
  · rcases hin.1 with h | h | ⟨hz, q, h1, h2, h3, h4⟩ | ⟨hz, q, h1, h2⟩
    · rw [h]; exact le_fth1 (by omega)
    · exact Nat.le_trans (RR_bd _ hl _ (hS _ h)).1 (A1 _ h)
    · have h5 := A1 q h1
      rw [RR_tok hz, if_pos ⟨h2, h3⟩] at h5
      have := (RR_bd (g := g) (T := T) (e := e) l (LV_t hl) (q + 1) (by omega)).1
      omega
    · have h5 := A1 q h1
      rw [RR_rul hz] at h5
      have hb := far_bd (g := g) (T := T) (e := e) (LV_h hl hz) (hS q h1)
      have h6 := le_fth1 (f := far g T e (rl z) q) (S := En g T e (rl z) q) (b := RR g T e l) (e := e) (by omega)
      have h7 : mx (tch g T e f S z) e ≤ far g T e (rl z) q := (mx_in (mx_le _ _) h2).2
      omega
  · obtain ⟨q, h1, h2⟩ := hm
    have h5 := A1 q h1
    rcases h2 with ⟨hz, b2, b3, b4⟩ | ⟨hz, b2⟩
    · rw [RR_tok hz, if_pos ⟨b2, b3⟩] at h5; rw [b4]; exact h5
    · rw [RR_rul hz] at h5
      have h6 := le_fth2 (f := far g T e (rl z) q) (S := En g T e (rl z) q) (b := RR g T e l) (e := e) b2 (RR_bd _ (LV_t hl) m (En_bd b2).2.2.1).2
      omega
theorem fth_end {g : Gr} {T : Nat → Int} {e f : Nat} {S : Nat → Prop} (hf : f ≤ e) (hS : ∀ q, S q → q ≤ e) : fth f S (RR g T e []) e = @ite _ (S e) (Classical.propDecidable _) (e + 1) (mx (fun v => v = f ∨ S v) e) := by
  by_cases h : S e
  · rw [if_pos h]
    have h1 := le_fth2 (f := f) (S := S) (b := RR g T e []) (e := e) h (by rw [RR_nil, if_pos rfl]; omega)
    rw [RR_nil, if_pos rfl] at h1
    have := fth_bd f S (RR g T e []) e
    omega
  · rw [if_neg h]
    have hr : ∀ q, S q → RR g T e [] q = q := fun q hq => by rw [RR_nil, if_neg (show ¬ q = e from fun w => h (by rw [← w]; exact hq))]
    have h0 := mx_in (S := fun v => v = f ∨ S v) hf (.inl rfl)
    refine Nat.le_antisymm (fth_le (by omega) (by omega) (fun q hq => ?_)) ?_
    · rw [hr q hq]; exact (mx_in (S := fun v => v = f ∨ S v) (hS q hq) (.inr hq)).2
    · rcases h0.1 with h1 | h1
      · rw [h1]; exact le_fth1 (by omega)
      · have h2 := le_fth2 (f := f) (S := S) (b := RR g T e []) (e := e) h1 (by rw [hr _ h1]; have := hS _ h1; omega)
        rw [hr _ h1] at h2; exact h2
theorem fth_none {f : Nat} {S : Nat → Prop} {b : Nat → Nat} {e : Nat} (hf : f ≤ e + 1) (h : ∀ m, ¬ S m) : fth f S b e = f :=
  Nat.le_antisymm (fth_le hf (Nat.le_refl _) (fun m hm => absurd hm (h m))) (le_fth1 hf)
/-! the symbols of a row from the k-th on -/
def sfx (g : Gr) (row : Nat) : Nat → Nat → List Int
  | 0, _ => []
  | d + 1, k => gY g row k :: sfx g row d (k + 1)
def rsy (g : Gr) (row k : Nat) : List Int := sfx g row (gL g row - k) k
theorem rsy_end {g : Gr} {row k : Nat} (h : gL g row ≤ k) : rsy g row k = [] := by
  unfold rsy; rw [show gL g row - k = 0 from by omega]; rfl
theorem rsy_s {g : Gr} {row k : Nat} (h : k < gL g row) : rsy g row k = gY g row k :: rsy g row (k + 1) := by
  unfold rsy; rw [show gL g row - k = (gL g row - (k + 1)) + 1 from by omega]; rfl
theorem sfx_mem {g : Gr} {row : Nat} (d : Nat) : ∀ k z, z ∈ sfx g row d k → ∃ j, k ≤ j ∧ j < k + d ∧ gY g row j = z := by
  induction d with
  | zero => intro k z h; exact absurd h List.not_mem_nil
  | succ d ih =>
    intro k z h
    rcases List.mem_cons.mp h with h | h
    · exact ⟨k, by omega, by omega, h.symm⟩
    · obtain ⟨j, h1, h2, h3⟩ := ih (k + 1) z h; exact ⟨j, by omega, by omega, h3⟩
theorem rsy_LV {g : Gr} (h2 : NoF (F2 g) (gR g)) {x a k : Nat} (hx : x < gR g) (ha : a < gA g x) {l : List Int} (hl : LV g l) : LV g (rsy g (8 * x + a) k ++ l) := by
  intro z hz hn
  rcases List.mem_append.mp hz with h | h
  · obtain ⟨j, h3, h4, h5⟩ := sfx_mem _ k z h
    have := rl_lt h2 hx ha (k := j) (by omega) (by rw [h5]; exact hn)
    rw [h5] at this; exact this
  · exact hl z h hn
theorem Gd_row {g : Gr} {T : Nat → Int} {e x a p : Nat} {l : List Int} (h2 : NoF (F2 g) (gR g)) (hx : x < gR g) (ha : a < gA g x) (hl : LV g l) (hp : p ≤ e) (d : Nat) : d ≤ gL g (8 * x + a) →
    ((∃ q, Run g T e (8 * x + a) (gL g (8 * x + a)) p q ∧ RR g T e l q = e + 1) ↔ ∃ m, Run g T e (8 * x + a) (gL g (8 * x + a) - d) p m ∧ RR g T e (rsy g (8 * x + a) (gL g (8 * x + a) - d) ++ l) m = e + 1) := by
  induction d with
  | zero => intro _; rw [Nat.sub_zero, rsy_end (Nat.le_refl _), List.nil_append]
  | succ d ih =>
    intro hd
    rw [ih (by omega)]
    have e1 : gL g (8 * x + a) - d = (gL g (8 * x + a) - (d + 1)) + 1 := by omega
    generalize gL g (8 * x + a) - (d + 1) = k at e1 ⊢
    rw [e1]
    have hk : k < gL g (8 * x + a) := by omega
    rw [rsy_s hk, List.cons_append]
    have hv : LV g (gY g (8 * x + a) k :: (rsy g (8 * x + a) (k + 1) ++ l)) := by
      have := rsy_LV (k := k) h2 hx ha hl
      rw [rsy_s hk, List.cons_append] at this; exact this
    constructor
    · rintro ⟨q, ⟨m, h3, h4⟩, h5⟩
      exact ⟨m, h3, (Gd_cons hv (Run_bd hp h3).2.1).mpr ⟨q, h4, h5⟩⟩
    · rintro ⟨m, h3, h4⟩
      obtain ⟨q, h5, h6⟩ := (Gd_cons hv (Run_bd hp h3).2.1).mp h4
      exact ⟨q, ⟨m, h3, h5⟩, h6⟩
theorem Gd_row0 {g : Gr} {T : Nat → Int} {e x a p : Nat} {l : List Int} (h2 : NoF (F2 g) (gR g)) (hx : x < gR g) (ha : a < gA g x) (hl : LV g l) (hp : p ≤ e) :
    (∃ q, Run g T e (8 * x + a) (gL g (8 * x + a)) p q ∧ RR g T e l q = e + 1) ↔ RR g T e (rsy g (8 * x + a) 0 ++ l) p = e + 1 := by
  rw [Gd_row h2 hx ha hl hp (gL g (8 * x + a)) (Nat.le_refl _), Nat.sub_self]
  constructor
  · rintro ⟨m, h3, h4⟩
    have h3 : m = p := h3
    subst h3; exact h4
  · intro h; exact ⟨p, rfl, h⟩
def tks : List Int → Nat
  | [] => 0
  | z :: l => (if 0 ≤ z then 1 else 0) + tks l
def rls : List Int → Nat
  | [] => 0
  | z :: l => (if z < 0 then 1 else 0) + rls l
theorem tks_app (l l' : List Int) : tks (l ++ l') = tks l + tks l' := by
  induction l with
  | nil => simp [tks]
  | cons z l ih => simp only [List.cons_append, tks, ih]; omega
theorem rls_app (l l' : List Int) : rls (l ++ l') = rls l + rls l' := by
  induction l with
  | nil => simp [rls]
  | cons z l ih => simp only [List.cons_append, rls, ih]; omega
theorem tr_len (l : List Int) : tks l + rls l = l.length := by
  induction l with
  | nil => rfl
  | cons z l ih => simp only [tks, rls, List.length_cons]; split <;> split <;> omega
theorem Gd_tks {g : Gr} {T : Nat → Int} {e : Nat} (l : List Int) : LV g l → ∀ q, q ≤ e → RR g T e l q = e + 1 → q + tks l ≤ e := by
  induction l with
  | nil => intro _ q hq h; simp only [tks]; omega
  | cons z l ih =>
    intro hl q hq h
    obtain ⟨m, h1, h2⟩ := (Gd_cons hl hq).mp h
    rcases h1 with ⟨b1, b2, b3, b4⟩ | ⟨b1, b2⟩
    · have := ih (LV_t hl) m (by omega) h2
      simp only [tks, if_pos b1]; omega
    · have hb := En_bd b2
      have := ih (LV_t hl) m (by omega) h2
      simp only [tks, if_neg (show ¬ 0 ≤ z by omega)]; omega
