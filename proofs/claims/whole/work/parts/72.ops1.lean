def OpH (σ τ : St) (mL : Nat) (TH : Room → Int32 → (Nat → Int64) → Sq → Prop) (TM : Value → Sq → Prop) (vl : Int32 → Value → Int64 → Prop) : Prop :=
  ∃ rH k5 f' s v q, TH rH k5 f' s ∧ TM v q ∧ (rH.frames + 1 ≤ 11 ∧ 8 + (mL + 11) + rH.locals ≤ 384) ∧ (rH.cells ≤ 1 ∧ rH.slots ≤ 6) ∧ xi (xa τ, q) 0 0 = k5 ∧ vl k5 v (f' 0) ∧ (∃ g T n, Rel g T n (xa σ, s) (xa τ, q)) ∧ xn (xa σ, s) = xn σ
def vI (k : Int32) (v : Value) (z : Int64) : Prop := ∃ b, v = .int b ∧ (k = 0 → z = Int32.toInt64 b)
def vJ (k : Int32) (v : Value) (z : Int64) : Prop := ∃ b, v = .long b ∧ (k = 0 → z = b)
def vB (k : Int32) (v : Value) (z : Int64) : Prop := ∃ b, v = .int b ∧ (k = 0 → ((b = 0 ∧ z = 0) ∨ (¬ b = 0 ∧ z = 1)))
theorem nat_of {x : Int32} (h : 0 ≤ x) : ∃ r, r < 2147483648 ∧ x = nI r := by
  have h1 : 0 ≤ x.toInt := by have := Int32.le_iff_toInt_le.mp h; simpa using this
  have h2 := x.toInt_lt
  refine ⟨x.toInt.toNat, by omega, ?_⟩
  rw [nI_sI, show ((x.toInt.toNat : Nat) : Int) = x.toInt from by omega, sI_of]
theorem rule_of {x : Int32} {R : Nat} (hR : R ≤ 16) (h : 0 ≤ x ∧ x < nI R) : ∃ r, r < R ∧ x = nI r := by
  obtain ⟨r, h1, h2⟩ := nat_of h.1
  refine ⟨r, ?_, h2⟩
  have h3 := h.2
  rw [h2, n_lt h1 (by omega)] at h3; exact h3
theorem rule_in {r R : Nat} (hR : R ≤ 16) (h : r < R) : 0 ≤ nI r ∧ nI r < nI R := by
  rw [n_0, n_le (by omega) (by omega), n_lt (by omega) (by omega)]; omega
def updN (a : Nat → Nat) (i v : Nat) (j : Nat) : Nat := if j = i then v else a j
def updZ (a : Nat → Int) (i : Nat) (v : Int) (j : Nat) : Int := if j = i then v else a j
theorem updN_r {f : Nat → Int32} {a : Nat → Nat} {N : Nat} (h : ∀ r, r < N → f r = nI (a r)) (i v : Nat) {x : Int32} (e : x = nI v) : ∀ r, r < N → upd f i x r = nI (updN a i v r) := by
  intro r hr
  unfold upd updN
  by_cases c : r = i
  · rw [if_pos c, if_pos c, e]
  · rw [if_neg c, if_neg c]; exact h r hr
theorem updZ_r {f : Nat → Int32} {a : Nat → Int} {N : Nat} (h : ∀ r, r < N → f r = sI (a r)) (i : Nat) (v : Int) {x : Int32} (e : x = sI v) : ∀ r, r < N → upd f i x r = sI (updZ a i v r) := by
  intro r hr
  unfold upd updZ
  by_cases c : r = i
  · rw [if_pos c, if_pos c, e]
  · rw [if_neg c, if_neg c]; exact h r hr
theorem updN_le {a : Nat → Nat} {m i v : Nat} (h : ∀ r, a r ≤ m) (hv : v ≤ m) (r : Nat) : updN a i v r ≤ m := by
  unfold updN; split
  · exact hv
  · exact h r
section OO
variable {g : Gr} {T : Nat → Int} {n : Nat} {σ τ : St}
theorem r_rule (G : GG) (hw : WF g) (hg : GC g σ) (x : Int32) : (∃ r, r < gR g ∧ x = nI r ∧ Ct y_F_mustBeRule c_F_mustBeRule 2 none rm_F_mustBeRule G [.ref (xa σ 0), .int x] (WC G σ) (eqp none (WC G σ))) ∨
    (¬ (0 ≤ x ∧ x < nI (gR g)) ∧ CtT y_F_mustBeRule c_F_mustBeRule 2 none rmt_F_mustBeRule G [.ref (xa σ 0), .int x] (WC G σ) "java/lang/IndexOutOfBoundsException" (fun w' => w' = WC G σ)) := by
  have h16 := hw.r
  by_cases c1 : x < 0
  · exact .inr ⟨fun q => absurd c1 (Int32.not_lt.mpr q.1), cz_F_mustBeRule_t G σ x c1⟩
  · by_cases c2 : x < xi σ 1 0
    · have c2' := c2
      rw [hg.1] at c2'
      obtain ⟨r, h1, h2⟩ := rule_of h16 ⟨Int32.not_lt.mp c1, c2'⟩
      exact .inl ⟨r, h1, h2, ct_F_mustBeRule_ft G σ x c1 c2⟩
    · exact .inr ⟨fun q => c2 (by rw [hg.1]; exact q.2), cz_F_mustBeRule_ff G σ x c1 c2⟩
theorem o_rule (G : GG) (o : Nat) (f : Nat → Int64) (h : Rel g T n σ τ) : OpH σ τ 3 (fun rH k5 f' s => CtH y_L_rule c_L_rule 3 (some .int) hs_L_rule rH G [.ref (xa σ 0), .ref o] (ow G o f :: WC G σ) (eqp (some (.int k5)) (ow G o f' :: WC G (xa σ, s)))) (fun v q => Ct y_M_rule c_M_rule 1 (some .int) rm_M_rule G [.ref (xa τ 0)] (WM G τ) (eqp (some v) (WM G (xa τ, q)))) vI := by
  have h16 := h.w.r
  have e1 : xi σ 1 0 = nI (gR g) := h.c.1
  have e2 : xi τ 0 1 = nI (gR g) := h.m.1
  by_cases c : gR g = 16
  · exact ⟨_, 1, _, σ.2, _, (wi τ 0 0 1).2, hz_L_rule_1 G σ o f (cz_F_rule_f G σ (by rw [e1, c]; rfl)), ct_M_rule_f G τ (by rw [e2, c]; rfl), ⟨by decide, by decide⟩, ⟨by decide, by decide⟩, rfl, ⟨_, rfl, fun q => absurd q (by decide)⟩, ⟨g, T, n, h.z 1⟩, rfl⟩
  · have c16 : ¬ nI (gR g) = 16 := by rw [show (16 : Int32) = nI 16 from rfl, n_eq (by omega) (by omega)]; exact c
    refine ⟨_, 0, _, (wi (wi (wi σ 5 0 0) 2 (gR g) 0) 1 0 (xi σ 1 0 + 1)).2, _, (wi (wi (wi τ 0 0 0) 1 (gR g) 0) 0 1 (xi τ 0 1 + 1)).2, hn_L_rule G σ o f (xi σ 1 0 + 1 - 1) (ct_F_rule_t G σ (wi σ 5 0 0).2 _ (wi (wi (wi σ 5 0 0) 2 (gR g) 0) 1 0 (xi σ 1 0 + 1)).2 (by rw [e1]; exact c16) (ct_S_outdate_ G σ) (ct_G_addRule_ G (wi σ 5 0 0) (gR g) e1 (by omega))), ct_M_rule_t G τ (gR g) (by rw [e2]; exact c16) e2 (by omega), ⟨by decide, by decide⟩, ⟨by decide, by decide⟩, rfl, ⟨xi τ 0 1 + 1 - 1, rfl, fun _ => by rw [e2, ← e1]; rfl⟩, ⟨(gR g + 1, updN (gA g) (gR g) 0, gL g, g.2.2.2), T, n, ?_⟩, rfl⟩
    refine ⟨⟨by show gR g + 1 ≤ 16; omega, fun r => updN_le h.w.a (by omega) r, h.w.2.2.1, h.w.2.2.2⟩, h.t, ⟨?_, updN_r h.c.2.1 _ 0 rfl, h.c.2.2.1, h.c.2.2.2⟩, ⟨?_, updN_r h.m.2.1 _ 0 rfl, h.m.2.2.1, h.m.2.2.2⟩, h.ic, h.im, fun q => absurd rfl q, h.tr, h.u⟩
    · show xi σ 1 0 + 1 = nI (gR g + 1); rw [e1, n_s]
    · show xi τ 0 1 + 1 = nI (gR g + 1); rw [e2, n_s]
end OO
