/-! the walk's stack -/
def FK (P : Nat → Prop) (σ σ' : St) : Prop := (∀ k, ¬ P k → xi σ' k = xi σ k) ∧ xl σ' = xl σ
theorem FK.refl (P : Nat → Prop) (σ : St) : FK P σ σ := ⟨fun _ _ => rfl, rfl⟩
theorem FK.trans {P : Nat → Prop} {σ σ' σ'' : St} (h : FK P σ σ') (h' : FK P σ' σ'') : FK P σ σ'' := ⟨fun k hk => (h'.1 k hk).trans (h.1 k hk), h'.2.trans h.2⟩
theorem FK.mono {P P' : Nat → Prop} {σ σ' : St} (h : FK P σ σ') (hp : ∀ k, P k → P' k) : FK P' σ σ' := ⟨fun k hk => h.1 k (fun q => hk (hp k q)), h.2⟩
theorem FK.i {P : Nat → Prop} {σ σ' : St} (h : FK P σ σ') {k : Nat} (hk : P k) (i : Nat) (v : Int32) : FK P σ (wi σ' k i v) := by
  refine ⟨fun j hj => ?_, h.2⟩
  have e : ¬ j = k := fun q => hj (q ▸ hk)
  show (if j = k then _ else xi σ' j) = _
  rw [if_neg e]; exact h.1 j hj
theorem GC.fk {g : Gr} {P : Nat → Prop} {σ σ' : St} (hg : GC g σ) (h : FK P σ σ') (hp : ¬ P 1 ∧ ¬ P 2 ∧ ¬ P 3 ∧ ¬ P 4) : GC g σ' := hg.of (h.1 1 hp.1) (h.1 2 hp.2.1) (h.1 3 hp.2.2.1) (h.1 4 hp.2.2.2)
theorem okC.fk {g : Gr} {T : Nat → Int} {e : Nat} {P : Nat → Prop} {σ σ' : St} (hC : okC g T e σ) (h : FK P σ σ') (hp : ¬ P 12 ∧ ¬ P 15 ∧ ¬ P 17) : okC g T e σ' := by
  unfold okC okT okR; rw [h.1 12 hp.1, h.1 15 hp.2.1, h.1 17 hp.2.2, h.2]; exact hC
theorem k_rulesIn (G : GG) {g : Gr} {σ : St} (hw : WF g) (hg : GC g σ) {row : Nat} (hr : row < 128) : Ct y_G_rulesIn c_G_rulesIn 4 (some .int) rm_G_rulesIn G [.ref (xa σ 1), .int (nI row)] (WC G σ) (eqp (some (.int (nI (rin g row)))) (WC G σ)) := by
  have hl := hw.l row
  have hrb : rin g row ≤ gL g row := by
    have := tr_len (rsy g row 0)
    rw [rsy_len] at this
    unfold rin; omega
  obtain ⟨v, h1, k1⟩ := iterL (α := Nat) (C := fun q : KP => Bd q.1 G q.2.1 "FirstTrees$Grammar" c_G_rulesIn 4 (some .int) rm_G_rulesIn) (gL g row) (fun k v => v + rls (rsy g row k) = rin g row)
    (fun q k v => Lb q.1 G q.2.1 (Qe q.1 G q.2.1 q.2.2 rm_G_rulesIn) 4 4 [(0, .ref (xa σ 1)), (1, .int (nI row)), (2, .int (nI v)), (3, .int (nI k))] [] (WC G σ) 0 0) (by
    intro k v hk hv
    rw [rsy_s hk] at hv
    have hy := hw.y row k
    have ek : xi σ 4 (8 * row + k) = sI (gY g row k) := hg.2.2.2 _ (by omega)
    have c11 : ¬ xi σ 3 row ≤ nI k := by rw [hg.2.2.1 row hr, n_le (by omega) (by omega)]; omega
    by_cases c : gY g row k < 0
    · simp only [rls, if_pos c] at hv
      refine ⟨v + 1, by omega, fun q X kk => ?_⟩
      refine sg_G_rulesIn_4_ff4 X σ _ _ _ row (8 * row + k) rfl hr c11 (n8 row k) (by omega) (by rw [ek]; exact tok_0 hy.1 hy.2 c) ?_
      rw [n_s, n_s]; exact kk
    · simp only [rls, if_neg c] at hv
      refine ⟨v, by omega, fun q X kk => ?_⟩
      refine sg_G_rulesIn_4_ft4 X σ _ _ _ row (8 * row + k) rfl hr c11 (n8 row k) (by omega) (by rw [ek, tok_1 hy.1 hy.2 c]; decide) ?_
      rw [n_s]; exact kk) 0 0 (Nat.zero_le _) (Nat.zero_add _)
  rw [rsy_end (Nat.le_refl _)] at h1
  have h1 : v + 0 = rin g row := h1
  have h1 : v = rin g row := by omega
  subst h1
  refine Ct.of (by decide +kernel) (Nat.le_of_ble_eq_true rfl) (fun K X => ?_)
  refine sg_G_rulesIn_0_4 X σ _ (k1 (K, _, _) X ?_)
  exact sg_G_rulesIn_4_tr X σ _ _ _ row rfl hr (by rw [hg.2.2.1 row hr, n_le (by omega) (by omega)]; omega) ⟨rfl, rfl⟩
def stk (σ : St) : List (Int × Int) → Prop
  | [] => True
  | (z, v) :: l => xp σ (2 * (l.length + 1)) 0 = sI z ∧ xp σ (2 * (l.length + 1)) 1 = sI v ∧ stk σ l
def rvs (g : Gr) (T : Nat → Int) (e p : Nat) (σ : St) : List (Int × Int) → Prop
  | [] => rvA g T e p σ 0 []
  | (z, v) :: l => rvA g T e p σ (l.length + 1) (z :: l.map Prod.fst) ∧ rvs g T e p σ l
theorem stk_c {σ σ' : St} (l : List (Int × Int)) (h : ∀ j, j ≤ 2 * l.length + 1 → xp σ' j = xp σ j) (hs : stk σ l) : stk σ' l := by
  induction l with
  | nil => trivial
  | cons a l ih =>
    obtain ⟨z, v⟩ := a
    obtain ⟨h1, h2, h3⟩ := hs
    have hl : ((z, v) :: l).length = l.length + 1 := rfl
    rw [hl] at h
    refine ⟨by rw [h _ (by omega)]; exact h1, by rw [h _ (by omega)]; exact h2, ih (fun j hj => h j (by omega)) h3⟩
theorem rvs_c {g : Gr} {T : Nat → Int} {e p p' : Nat} {σ σ' : St} (hp : p ≤ p') (l : List (Int × Int)) (h : ∀ j, j ≤ 2 * l.length + 1 → xp σ' j = xp σ j) (hs : rvs g T e p σ l) : rvs g T e p' σ' l := by
  induction l with
  | nil => intro q h1 h2; rw [h _ (by show 2 * 0 + 1 ≤ 2 * 0 + 1; omega)]; exact hs q (by omega) h2
  | cons a l ih =>
    obtain ⟨z, v⟩ := a
    obtain ⟨h1, h3⟩ := hs
    have hl : ((z, v) :: l).length = l.length + 1 := rfl
    rw [hl] at h
    refine ⟨fun q q1 q2 => by rw [h _ (by omega)]; exact h1 q (by omega) q2, ih (fun j hj => h j (by omega)) h3⟩
theorem rvs_top {g : Gr} {T : Nat → Int} {e p : Nat} {σ : St} (l : List (Int × Int)) (hs : rvs g T e p σ l) : rvA g T e p σ l.length (l.map Prod.fst) := by
  cases l with
  | nil => exact hs
  | cons a l => obtain ⟨z, v⟩ := a; exact hs.1
theorem rvs_tail {g : Gr} {T : Nat → Int} {e p : Nat} {σ : St} (l : List (Int × Int)) (hs : rvs g T e p σ l) : rvs g T e p σ l.tail := by
  cases l with
  | nil => exact hs
  | cons a l => obtain ⟨z, v⟩ := a; exact hs.2
theorem k_findReaches (G : GG) {g : Gr} {T : Nat → Int} {n e : Nat} {σ : St} (hw : WF g) (hT : WT T n) (he : e ≤ 60) (hC : okC g T e σ) (hI : ∀ i, i < 60 → xi σ 11 i = sI (T i)) {p : Nat} (hp : p ≤ e) {z v : Int} {l : List (Int × Int)} (hz : -16 ≤ z ∧ z ≤ 31) (hl : LV g (z :: l.map Prod.fst)) (hm : l.length + 1 < xn σ) (hm2 : l.length + 1 < 2061)
    (hK : xi σ 22 0 = nI (l.length + 1)) (hPl : xi σ 22 1 = nI p) (hs : stk σ ((z, v) :: l)) (hv : rvs g T e p σ l) :
    ∃ s : Sq, (rvs g T e p (xa σ, s) ((z, v) :: l) ∧ stk (xa σ, s) ((z, v) :: l) ∧ xi (xa σ, s) = xi σ ∧ xl (xa σ, s) = xl σ ∧ xn (xa σ, s) = xn σ ∧ (∀ j, j ≤ 2 * l.length + 1 → xp (xa σ, s) j = xp σ j)) ∧
      ∀ f : Nat → Nat, Ct y_K_findReaches c_K_findReaches 6 none rm_K_findReaches G [.ref (f 22)] (WC G (f, σ.2)) (eqp none (WC G (f, s))) := by
  have htop := rvs_top l hv
  obtain ⟨s, ⟨_, a1, a2, a3, a4, a5⟩, k1⟩ := iterL (α := Sq) (κ := (KP × (Nat → Nat))) (C := fun q => Bd q.1.1 G q.1.2.1 "FirstTrees$Walk" c_K_findReaches 6 none rm_K_findReaches) (e + 1)
    (fun i s => p ≤ i ∧ (∀ q, p ≤ q → q < i → xp (xa σ, s) (2 * (l.length + 1) + 1) q = nI (RR g T e (z :: l.map Prod.fst) q)) ∧ xi (xa σ, s) = xi σ ∧ xl (xa σ, s) = xl σ ∧ xn (xa σ, s) = xn σ ∧ (∀ j, j ≠ 2 * (l.length + 1) + 1 → xp (xa σ, s) j = xp σ j))
    (fun q i s => Lb q.1.1 G q.1.2.1 (Qe q.1.1 G q.1.2.1 q.1.2.2 rm_K_findReaches) 6 47 [(0, .ref (q.2 22)), (1, .ref (q.2 (29 + 2 * (l.length + 1)))), (2, .ref (q.2 (29 + 2 * l.length))), (3, .int (sI z)), (4, .int (nI i))] [] (WC G (q.2, s)) 0 0) (by
    intro i s hi ⟨a0, a1, a2, a3, a4, a5⟩
    have hE : xi (xa σ, s) 12 0 = nI e := by rw [a2]; exact hC.1
    have hI' : ∀ i, i < 60 → xi (xa σ, s) 11 i = sI (T i) := by rw [a2]; exact hI
    have hbelow : ∀ q, p ≤ q → q ≤ e → xp (xa σ, s) (2 * l.length + 1) q = nI (RR g T e (l.map Prod.fst) q) := fun q q1 q2 => by rw [a5 _ (by omega)]; exact htop q q1 q2
    have hn1 : l.length + 1 < xn (xa σ, s) := by rw [a4]; exact hm
    have hn2 : l.length < xn (xa σ, s) := by omega
    have upd1 : ∀ v : Int32, v = nI (RR g T e (z :: l.map Prod.fst) i) → (∀ q, p ≤ q → q < i + 1 → xp (xa σ, (wp (xa σ, s) (2 * (l.length + 1) + 1) i v).2) (2 * (l.length + 1) + 1) q = nI (RR g T e (z :: l.map Prod.fst) q)) := by
      intro v hv q q1 q2
      show (if 2 * (l.length + 1) + 1 = 2 * (l.length + 1) + 1 then upd (xp (xa σ, s) (2 * (l.length + 1) + 1)) i v else _) q = _
      rw [if_pos rfl]
      by_cases eq : q = i
      · rw [eq, upd_at, hv]
      · rw [upd_ne _ _ eq]; exact a1 q q1 (by omega)
    have upd2 : ∀ v : Int32, ∀ j, j ≠ 2 * (l.length + 1) + 1 → xp (xa σ, (wp (xa σ, s) (2 * (l.length + 1) + 1) i v).2) j = xp σ j := by
      intro v j hj
      show (if j = 2 * (l.length + 1) + 1 then _ else xp (xa σ, s) j) = _
      rw [if_neg hj]; exact a5 j hj
    by_cases c : z < 0
    · have hy := LV_h hl c
      have hrl : rl z < 16 := by unfold rl; omega
      obtain ⟨o1, o2, _⟩ := (hC.2 (rl z) hy i (by omega)).1
      have hfar := far_bd (g := g) (T := T) (e := e) hy (show i ≤ e by omega)
      refine ⟨(wp (xa σ, s) (2 * (l.length + 1) + 1) i (nI (RR g T e (z :: l.map Prod.fst) i))).2, ⟨by omega, upd1 _ rfl, a2, a3, a4, upd2 _⟩, fun q X kk => ?_⟩
      have t := k_farthest G (σ := (q.2, s)) he hE (f := far g T e (rl z) i) (p := i) (m := l.length) hn2 hfar.2 (by omega) (w := xl σ 16 (61 * rl z + i)) (En g T e (rl z) i) o1 (fun j w => ⟨(En_bd w).2.1, (En_bd w).2.2.1⟩) (RR g T e (l.map Prod.fst)) (fun j w => by
        have hb := En_bd w
        exact ⟨hbelow j (by omega) (by omega), (RR_bd _ (LV_t hl) j (by omega)).2⟩)
      rw [← RR_rul c] at t
      rw [← o2, ← a2, ← a3] at t
      refine sg_K_findReaches_47_ft47 X (q.2, s) _ _ (l.length + 1) l.length (61 * rl z + i) _ i hn1 hn2 ?_ (tok_0 hz.1 hz.2 c) (by rw [rl_sI c, m61]) (by omega) t rfl (by omega) ?_
      · show ¬ xi (xa σ, s) 12 0 < nI i
        rw [hE, n_lt (by omega) (by omega)]; omega
      · rw [n_s]; exact kk
    · refine ⟨(wp (xa σ, s) (2 * (l.length + 1) + 1) i (nI (RR g T e (z :: l.map Prod.fst) i))).2, ⟨by omega, upd1 _ rfl, a2, a3, a4, upd2 _⟩, fun q X kk => ?_⟩
      have t := k_reachOfToken G (σ := (q.2, s)) hT he hE hI' (z := z) (by omega) hz.2 (q := i) (m := l.length) hn2 (by omega) (RR g T e (l.map Prod.fst)) (fun w => hbelow (i + 1) (by omega) (by omega))
      rw [← RR_tok (by omega)] at t
      refine sg_K_findReaches_47_ff47 X (q.2, s) _ _ (l.length + 1) l.length _ i hn1 hn2 ?_ (by rw [tok_1 hz.1 hz.2 c]; decide) t rfl (by omega) ?_
      · show ¬ xi (xa σ, s) 12 0 < nI i
        rw [hE, n_lt (by omega) (by omega)]; omega
      · rw [n_s]; exact kk) p σ.2 (by omega) ⟨Nat.le_refl _, fun q h1 h2 => by omega, rfl, rfl, rfl, fun _ _ => rfl⟩
  have hkeep : ∀ j, j ≤ 2 * l.length + 1 → xp (xa σ, s) j = xp σ j := fun j hj => a5 j (by omega)
  refine ⟨s, ⟨⟨fun q q1 q2 => a1 q q1 (by omega), rvs_c (Nat.le_refl _) l hkeep hv⟩, ⟨by rw [a5 _ (by omega)]; exact hs.1, by rw [a5 _ (by omega)]; exact hs.2.1, stk_c l hkeep hs.2.2⟩, a2, a3, a4, hkeep⟩, fun f => ?_⟩
  refine Ct.of (by decide +kernel) (Nat.le_of_ble_eq_true rfl) (fun K X => ?_)
  have hE : xi (xa σ, s) 12 0 = nI e := by rw [a2]; exact hC.1
  have hn1 : l.length + 1 < xn (xa σ, s) := by rw [a4]; exact hm
  refine sg_K_findReaches_0_47 X (f, σ.2) (l.length + 1) l.length hK hm2 hm (by
    show xi σ 22 0 - 1 = _
    rw [hK, n_p (by omega)]; rfl) (by omega) (show l.length < xn σ by omega) ?_
  have e1 : xp (f, σ.2) (2 * (l.length + 1)) 0 = sI z := hs.1
  have e2 : xi (f, σ.2) 22 1 = nI p := hPl
  rw [e1, e2]
  refine k1 ((K, _, _), f) X ?_
  refine sg_K_findReaches_47_tr X (f, s) _ _ (l.length + 1) l.length hn1 (show l.length < xn (xa σ, s) by omega) ?_ ⟨rfl, rfl⟩
  show xi (xa σ, s) 12 0 < nI (e + 1)
  rw [hE, n_lt (by omega) (by omega)]; omega
theorem k_lay (G : GG) {σ : St} {z v : Int} {l : List (Int × Int)} (hm : l.length < xn σ) (hm2 : l.length + 1 < 2061) (hK : xi σ 22 0 = nI l.length) (hs : stk σ l) :
    ∃ (δ : Nat) (s : Sq), (stk (xa σ, s) ((z, v) :: l) ∧ xi (xa σ, s) 22 0 = nI (l.length + 1) ∧ (∀ j, j ≠ 0 → xi (xa σ, s) 22 j = xi σ 22 j) ∧ FK (inR 22 22) σ (xa σ, s) ∧ xn (xa σ, s) = xn σ + δ ∧ l.length + 1 < xn (xa σ, s) ∧ (∀ j, j ≤ 2 * l.length + 1 → xp (xa σ, s) j = xp σ j) ∧ (xn σ ≤ 2061 → xn (xa σ, s) ≤ 2061)) ∧
      ∀ f : Nat → Nat, Ct y_K_lay c_K_lay 3 none (rmk rm_K_lay δ) G [.ref (f 22), .int (sI z), .int (sI v)] (WC G (f, σ.2)) (PA G f none s) := by
  have key : ∀ (δ : Nat) (s1 : Sq), s1.1 22 0 = nI (l.length + 1) → (∀ j, j ≠ 0 → s1.1 22 j = xi σ 22 j) → (∀ k, ¬ k = 22 → s1.1 k = xi σ k) → s1.2.1 = xl σ → s1.2.2.2 = xn σ + δ → l.length + 1 < s1.2.2.2 → (∀ j, j ≤ 2 * l.length + 1 → s1.2.2.1 j = xp σ j) → (xn σ ≤ 2061 → s1.2.2.2 ≤ 2061) →
      (∀ f : Nat → Nat, Ct y_K_makeRoom c_K_makeRoom 1 none (rmk rm_K_makeRoom δ) G [.ref (f 22)] (WC G (wi (f, σ.2) 22 0 (xi σ 22 0 + 1))) (PA G f none s1)) →
      ∃ (δ : Nat) (s : Sq), (stk (xa σ, s) ((z, v) :: l) ∧ xi (xa σ, s) 22 0 = nI (l.length + 1) ∧ (∀ j, j ≠ 0 → xi (xa σ, s) 22 j = xi σ 22 j) ∧ FK (inR 22 22) σ (xa σ, s) ∧ xn (xa σ, s) = xn σ + δ ∧ l.length + 1 < xn (xa σ, s) ∧ (∀ j, j ≤ 2 * l.length + 1 → xp (xa σ, s) j = xp σ j) ∧ (xn σ ≤ 2061 → xn (xa σ, s) ≤ 2061)) ∧
        ∀ f : Nat → Nat, Ct y_K_lay c_K_lay 3 none (rmk rm_K_lay δ) G [.ref (f 22), .int (sI z), .int (sI v)] (WC G (f, σ.2)) (PA G f none s) := by
    intro δ s1 b1 b2 b3 b4 b5 b6 b7 b8 t
    have hlow : ∀ j, j ≤ 2 * l.length + 1 → xp (xa σ, (wp (wp (xa σ, s1) (2 * (l.length + 1)) 0 (sI z)) (2 * (l.length + 1)) 1 (sI v)).2) j = xp σ j := by
      intro j hj
      show (if j = 2 * (l.length + 1) then _ else (if j = 2 * (l.length + 1) then _ else s1.2.2.1 j)) = _
      rw [if_neg (by omega), if_neg (by omega)]; exact b7 j hj
    refine ⟨δ, (wp (wp (xa σ, s1) (2 * (l.length + 1)) 0 (sI z)) (2 * (l.length + 1)) 1 (sI v)).2, ⟨⟨?_, ?_, stk_c l hlow hs⟩, b1, b2, ⟨fun k hk => b3 k (fun q => hk (by subst q; exact ⟨Nat.le_refl _, Nat.le_refl _⟩)), b4⟩, b5, b6, hlow, b8⟩, fun f => ?_⟩
    · show (if 2 * (l.length + 1) = 2 * (l.length + 1) then upd (if 2 * (l.length + 1) = 2 * (l.length + 1) then upd _ 0 (sI z) else _) 1 (sI v) else _) 0 = _
      rw [if_pos rfl, if_pos rfl, upd_ne _ _ (by decide), upd_at]
    · show (if 2 * (l.length + 1) = 2 * (l.length + 1) then upd _ 1 (sI v) else _) 1 = _
      rw [if_pos rfl, upd_at]
    · refine Ct.of (by decide +kernel) (Nat.le_of_ble_eq_true rfl) (fun K X => ?_)
      refine sg_K_lay_0_r (cc := 0) (ss := 0) X (f, σ.2) _ _ δ s1 (l.length + 1) (Nat.zero_le _) (Nat.zero_le _) (t f) (by omega) (by omega) b1 hm2 b6 (fun f' hf' => ⟨rfl, f', hf', rfl⟩)
  have hK1 : xi (wi σ 22 0 (xi σ 22 0 + 1)) 22 0 = nI (l.length + 1) := by show xi σ 22 0 + 1 = _; rw [hK, n_s]
  have hj : ∀ j, j ≠ 0 → xi (wi σ 22 0 (xi σ 22 0 + 1)) 22 j = xi σ 22 j := fun j hj => by show upd (xi σ 22) 0 _ j = _; rw [upd_ne _ _ hj]
  have hk : ∀ k, ¬ k = 22 → xi (wi σ 22 0 (xi σ 22 0 + 1)) k = xi σ k := fun k hk => by show (if k = 22 then _ else xi σ k) = _; rw [if_neg hk]
  by_cases c : l.length + 1 < xn σ
  · refine key 0 (wi σ 22 0 (xi σ 22 0 + 1)).2 hK1 hj hk rfl rfl c (fun _ _ => rfl) (fun h => h) (fun f => ?_)
    obtain ⟨δ, s, h1, t⟩ := k_makeRoom G (σ := wi (f, σ.2) 22 0 (xi σ 22 0 + 1)) (n := l.length + 1) hK1 hm2 (by show l.length + 1 ≤ xn σ; omega)
    rcases h1 with ⟨rfl, rfl, _⟩ | ⟨_, _, h3⟩
    · exact t
    · have h3 : l.length + 1 = xn σ := h3
      omega
  · have hx : l.length + 1 = xn σ := by omega
    refine key 1 (adS (wi σ 22 0 (xi σ 22 0 + 1)).2) hK1 hj hk rfl rfl (by show l.length + 1 < xn σ + 1; omega) (fun j hj => ?_) (fun _ => by show xn σ + 1 ≤ 2061; omega) (fun f => ?_)
    · show (if j = 2 * xn σ ∨ j = 2 * xn σ + 1 then _ else xp σ j) = _
      rw [if_neg (by omega)]
    · obtain ⟨δ, s, h1, t⟩ := k_makeRoom G (σ := wi (f, σ.2) 22 0 (xi σ 22 0 + 1)) (n := l.length + 1) hK1 hm2 (by show l.length + 1 ≤ xn σ; omega)
      rcases h1 with ⟨_, _, h3⟩ | ⟨rfl, rfl, _⟩
      · have h3 : l.length + 1 < xn σ := h3
        omega
      · exact t
