/-! the walk's layBottom, layRow -/
theorem k_layBottom (G : GG) {g : Gr} {T : Nat → Int} {e : Nat} {σ : St} (he : e ≤ 60) (hE : xi σ 12 0 = nI e) :
    ∃ (δ : Nat) (s : Sq), (rvs g T e 0 (xa σ, s) [] ∧ xi (xa σ, s) 22 0 = nI 0 ∧ (∀ j, j ≠ 0 → xi (xa σ, s) 22 j = xi σ 22 j) ∧ FK (inR 22 22) σ (xa σ, s) ∧ xn (xa σ, s) = xn σ + δ ∧ 0 < xn (xa σ, s) ∧ (xn σ ≤ 2061 → xn (xa σ, s) ≤ 2061)) ∧
      ∀ f : Nat → Nat, Ct y_K_layBottom c_K_layBottom 3 none (rmk rm_K_layBottom δ) G [.ref (f 22)] (WC G (f, σ.2)) (PA G f none s) := by
  have key : ∀ (δ : Nat) (s1 : Sq), s1.1 22 0 = nI 0 → (∀ j, j ≠ 0 → s1.1 22 j = xi σ 22 j) → (∀ k, ¬ k = 22 → s1.1 k = xi σ k) → s1.2.1 = xl σ → s1.2.2.2 = xn σ + δ → 0 < s1.2.2.2 → (xn σ ≤ 2061 → s1.2.2.2 ≤ 2061) →
      (∀ f : Nat → Nat, Ct y_K_makeRoom c_K_makeRoom 1 none (rmk rm_K_makeRoom δ) G [.ref (f 22)] (WC G (wi (f, σ.2) 22 0 0)) (PA G f none s1)) →
      ∃ (δ : Nat) (s : Sq), (rvs g T e 0 (xa σ, s) [] ∧ xi (xa σ, s) 22 0 = nI 0 ∧ (∀ j, j ≠ 0 → xi (xa σ, s) 22 j = xi σ 22 j) ∧ FK (inR 22 22) σ (xa σ, s) ∧ xn (xa σ, s) = xn σ + δ ∧ 0 < xn (xa σ, s) ∧ (xn σ ≤ 2061 → xn (xa σ, s) ≤ 2061)) ∧
        ∀ f : Nat → Nat, Ct y_K_layBottom c_K_layBottom 3 none (rmk rm_K_layBottom δ) G [.ref (f 22)] (WC G (f, σ.2)) (PA G f none s) := by
    intro δ s1 b1 b2 b3 b4 b5 b6 b8 t
    have hE1 : s1.1 12 0 = nI e := by rw [b3 12 (by decide)]; exact hE
    obtain ⟨s, ⟨a1, a2, a3, a4, a5⟩, k1⟩ := iterL (α := Sq) (κ := (KP × (Nat → Nat))) (C := fun q => Bd q.1.1 G q.1.2.1 "FirstTrees$Walk" c_K_layBottom 3 none (rmk rm_K_layBottom δ)) e
      (fun i s => (∀ q, q < i → s.2.2.1 1 q = nI q) ∧ s.1 = s1.1 ∧ s.2.1 = s1.2.1 ∧ s.2.2.2 = s1.2.2.2 ∧ True)
      (fun q i s => Lb q.1.1 G q.1.2.1 (Qe q.1.1 G q.1.2.1 q.1.2.2 (rmk rm_K_layBottom δ)) 3 21 [(0, .ref (q.2 22)), (1, .ref (q.2 (29 + 2 * 0))), (2, .int (nI i))] [] (WC G (q.2, s)) (2 * δ) (64 * δ)) (by
      intro i s hi ⟨a1, a2, a3, a4, _⟩
      refine ⟨(wp (xa σ, s) (2 * 0 + 1) i (nI i)).2, ⟨fun q hq => ?_, a2, a3, a4, trivial⟩, fun q X kk => ?_⟩
      · show upd (s.2.2.1 1) i (nI i) q = nI q
        by_cases eq : q = i
        · rw [eq, upd_at]
        · rw [upd_ne _ _ eq]; exact a1 q (by omega)
      · refine sg_K_layBottom_21_f21 X (q.2, s) _ 0 i (by show 0 < s.2.2.2; omega) (Nat.le_refl _) (Nat.le_refl _) ?_ rfl (by omega) ?_
        · show ¬ s.1 12 0 ≤ nI i
          rw [a2, hE1, n_le (by omega) (by omega)]; omega
        · rw [n_s]; exact kk) 0 s1 (Nat.zero_le _) ⟨fun q hq => absurd hq (Nat.not_lt_zero _), rfl, rfl, rfl, trivial⟩
    refine ⟨δ, (wp (xa σ, s) (2 * 0 + 1) e (nI (e + 1))).2, ⟨?_, ?_, ?_, ⟨fun k hk => ?_, ?_⟩, ?_, ?_, ?_⟩, fun f => ?_⟩
    · intro q q1 q2
      show upd (s.2.2.1 1) e (nI (e + 1)) q = nI (if q = e then e + 1 else q)
      by_cases eq : q = e
      · rw [eq, upd_at, if_pos rfl]
      · rw [upd_ne _ _ eq, if_neg eq]; exact a1 q (by omega)
    · show s.1 22 0 = _; rw [a2]; exact b1
    · intro j hj; show s.1 22 j = _; rw [a2]; exact b2 j hj
    · show s.1 k = _; rw [a2]; exact b3 k (fun q => hk (by subst q; exact ⟨Nat.le_refl _, Nat.le_refl _⟩))
    · show s.2.1 = _; rw [a3]; exact b4
    · show s.2.2.2 = _; rw [a4]; exact b5
    · show 0 < s.2.2.2; omega
    · intro hx; show s.2.2.2 ≤ 2061; rw [a4]; exact b8 hx
    · refine Ct.of (by decide +kernel) (Nat.le_of_ble_eq_true rfl) (fun K X => ?_)
      refine sg_K_layBottom_0_21 (cc := 0) (ss := 0) X (f, σ.2) δ s1 (Nat.zero_le _) (Nat.zero_le _) (t f) (by omega) (by omega) b6 (fun f' hf' => ?_)
      show Lb K G (WC G (f, σ.2)) _ 3 21 [(0, .ref (f' 22)), (1, .ref (f' (29 + 2 * 0))), (2, .int (nI 0))] [] (WC G (f', s1)) (0 + 2 * δ) (0 + 64 * δ)
      rw [Nat.zero_add (2 * δ), Nat.zero_add (64 * δ)]
      refine k1 ((K, WC G (f, σ.2), _), f') X ?_
      have hE2 : xi (f', s) 12 0 = nI e := by show s.1 12 0 = _; rw [a2]; exact hE1
      refine sg_K_layBottom_21_tr X (f', s) _ 0 e (by show 0 < s.2.2.2; omega) (Nat.le_refl _) (Nat.le_refl _) (by rw [hE2, n_le (by omega) (by omega)]; omega) hE2 (by omega) ?_
      rw [hE2, n_s]
      exact ⟨rfl, f', hf', rfl⟩
  have hj : ∀ j, j ≠ 0 → xi (wi σ 22 0 0) 22 j = xi σ 22 j := fun j hj => by show upd (xi σ 22) 0 _ j = _; rw [upd_ne _ _ hj]
  have hk : ∀ k, ¬ k = 22 → xi (wi σ 22 0 0) k = xi σ k := fun k hk => by show (if k = 22 then _ else xi σ k) = _; rw [if_neg hk]
  by_cases c : 0 < xn σ
  · refine key 0 (wi σ 22 0 0).2 rfl hj hk rfl rfl c (fun h => h) (fun f => ?_)
    obtain ⟨δ, s, h1, t⟩ := k_makeRoom G (σ := wi (f, σ.2) 22 0 0) (n := 0) rfl (by decide) (Nat.zero_le _)
    rcases h1 with ⟨rfl, rfl, _⟩ | ⟨_, _, h3⟩
    · exact t
    · have h3 : 0 = xn σ := h3
      omega
  · refine key 1 (adS (wi σ 22 0 0).2) rfl hj hk rfl rfl (Nat.succ_pos _) (fun _ => by show xn σ + 1 ≤ 2061; omega) (fun f => ?_)
    obtain ⟨δ, s, h1, t⟩ := k_makeRoom G (σ := wi (f, σ.2) 22 0 0) (n := 0) rfl (by decide) (Nat.zero_le _)
    rcases h1 with ⟨_, _, h3⟩ | ⟨rfl, rfl, _⟩
    · exact absurd h3 c
    · exact t
/-- the symbols of a row, from the i-th on, with their node, on top of l -/
def lsi (g : Gr) (row nd i : Nat) (l : List (Int × Int)) : List (Int × Int) := itm nd (rsy g row i) ++ l
theorem lsi_s {g : Gr} {row nd i : Nat} {l : List (Int × Int)} (h : i < gL g row) : lsi g row nd i l = (gY g row i, (nd : Int)) :: lsi g row nd (i + 1) l := by
  unfold lsi; rw [rsy_s h]; rfl
theorem lsi_e {g : Gr} {row nd : Nat} {l : List (Int × Int)} : lsi g row nd (gL g row) l = l := by
  unfold lsi; rw [rsy_end (Nat.le_refl _)]; rfl
theorem lsi_len {g : Gr} {row nd i : Nat} {l : List (Int × Int)} : (lsi g row nd i l).length = (gL g row - i) + l.length := by
  unfold lsi; rw [List.length_append, itm_len]; congr 1; exact sfx_len _ _ _ _
theorem itm_fst (nd : Nat) (r : List Int) : (itm nd r).map Prod.fst = r := by
  induction r with
  | nil => rfl
  | cons z r ih => show z :: (itm nd r).map Prod.fst = z :: r; rw [ih]
theorem lsi_fst {g : Gr} {row nd i : Nat} {l : List (Int × Int)} : (lsi g row nd i l).map Prod.fst = rsy g row i ++ l.map Prod.fst := by
  unfold lsi; rw [List.map_append, itm_fst]
theorem k_layRow (G : GG) {g : Gr} {T : Nat → Int} {n e : Nat} {σ : St} (hw : WF g) (hg : GC g σ) (h2 : NoF (F2 g) (gR g)) (hT : WT T n) (he : e ≤ 60) (hC : okC g T e σ) (hI : ∀ i, i < 60 → xi σ 11 i = sI (T i)) {p x a nd : Nat} (hp : p ≤ e) (hx : x < gR g) (ha : a < gA g x) {l : List (Int × Int)} (hl : LV g (l.map Prod.fst)) (hm : l.length < xn σ) (hm2 : gL g (8 * x + a) + l.length < 2061)
    (hK : xi σ 22 0 = nI l.length) (hPl : xi σ 22 1 = nI p) (hs : stk σ l) (hv : rvs g T e p σ l) :
    ∃ (δ : Nat) (s : Sq), (stk (xa σ, s) (lsi g (8 * x + a) nd 0 l) ∧ rvs g T e p (xa σ, s) (lsi g (8 * x + a) nd 0 l).tail ∧ xi (xa σ, s) 22 0 = nI (lsi g (8 * x + a) nd 0 l).length ∧ (∀ j, j ≠ 0 → xi (xa σ, s) 22 j = xi σ 22 j) ∧ FK (inR 22 22) σ (xa σ, s) ∧ xn (xa σ, s) = xn σ + δ ∧ (lsi g (8 * x + a) nd 0 l).length < xn (xa σ, s) ∧ (xn σ ≤ 2061 → xn (xa σ, s) ≤ 2061)) ∧
      ∀ f : Nat → Nat, Ct y_K_layRow c_K_layRow 4 none (rmk rm_K_layRow δ) G [.ref (f 22), .int (nI (8 * x + a)), .int (nI nd)] (WC G (f, σ.2)) (PA G f none s) := by
  have h16 := hw.r
  have h8 := hw.a x
  have hll := hw.l (8 * x + a)
  have hr : 8 * x + a < 128 := by omega
  obtain ⟨s, ⟨a1, a2, a3, a4, a5, a6, a7⟩, k1⟩ := iterD (α := Sq) (κ := KP × (Nat → Nat) × Nat) (C := fun q => Bd q.1.1 G q.1.2.1 "FirstTrees$Walk" c_K_layRow 4 none (rmk rm_K_layRow q.2.2))
    (fun i s => stk (xa σ, s) (lsi g (8 * x + a) nd i l) ∧ (0 < i → rvs g T e p (xa σ, s) (lsi g (8 * x + a) nd i l)) ∧ (i = 0 → rvs g T e p (xa σ, s) (lsi g (8 * x + a) nd i l).tail) ∧ xi (xa σ, s) 22 0 = nI (lsi g (8 * x + a) nd i l).length ∧ (∀ j, j ≠ 0 → xi (xa σ, s) 22 j = xi σ 22 j) ∧ FK (inR 22 22) σ (xa σ, s) ∧ xn σ ≤ s.2.2.2 ∧ (lsi g (8 * x + a) nd i l).length < s.2.2.2 ∧ (xn σ ≤ 2061 → s.2.2.2 ≤ 2061))
    (fun q i s => s.2.2.2 ≤ xn σ + q.2.2 ∧ ∀ f : Nat → Nat, (∀ k, k < 28 → f k = q.2.1 k) → Lb q.1.1 G q.1.2.1 (Qe q.1.1 G q.1.2.1 q.1.2.2 (rmk rm_K_layRow q.2.2)) 4 11 [(0, .ref (f 22)), (1, .int (nI (8 * x + a))), (2, .int (nI nd)), (3, .int (dI i))] [] (WC G (f, s)) (2 * (s.2.2.2 - xn σ)) (64 * (s.2.2.2 - xn σ))) (gL g (8 * x + a)) (by
    intro i s hi ⟨a1, a2, _, a4, a5, a6, a7, a8, a9⟩
    have a2 := a2 (Nat.succ_pos _)
    have hll1 : (lsi g (8 * x + a) nd (i + 1) l).length + 1 < 2061 := by rw [lsi_len]; omega
    have hy := hw.y (8 * x + a) i
    have hg' : GC g (xa σ, s) := hg.fk a6 (by decide)
    obtain ⟨δ, s1, ⟨b1, b2, b3, b4, b5, b6, b7, b8⟩, t⟩ := k_lay G (σ := (xa σ, s)) (z := gY g (8 * x + a) i) (v := (nd : Int)) (l := lsi g (8 * x + a) nd (i + 1) l) a8 hll1 a4 a1
    have b4 : FK (inR 22 22) (xa σ, s) (xa σ, s1) := b4
    have b5 : s1.2.2.2 = s.2.2.2 + δ := b5
    have f1 : FK (inR 22 22) σ (xa σ, s1) := a6.trans b4
    have ek : ∀ f : Nat → Nat, xi (f, s) 4 (8 * (8 * x + a) + i) = sI (gY g (8 * x + a) i) := fun f => hg'.2.2.2 _ (by omega)
    have h5 : ∀ j, j ≠ 0 → xi (xa σ, s1) 22 j = xi σ 22 j := fun j hj => (b3 j hj).trans (a5 j hj)
    have hlen : (lsi g (8 * x + a) nd i l).length = (lsi g (8 * x + a) nd (i + 1) l).length + 1 := by rw [lsi_s hi]; rfl
    by_cases c : 0 < i
    · obtain ⟨s2, ⟨c1, c2, c3, c4, c5, c6⟩, t2⟩ := k_findReaches G (σ := (xa σ, s1)) hw hT he (hC.fk f1 (by decide)) (by rw [f1.1 11 (by decide)]; exact hI) hp (z := gY g (8 * x + a) i) (v := (nd : Int)) (l := lsi g (8 * x + a) nd (i + 1) l) hy (by
        rw [lsi_fst]
        have := rsy_LV (k := i) h2 hx ha hl
        rw [rsy_s hi, List.cons_append] at this; exact this) b6 hll1 b2 (by rw [h5 1 (by decide)]; exact hPl) b1 (rvs_c (Nat.le_refl _) _ b7 a2)
      have c3 : s2.1 = s1.1 := c3
      have c4 : s2.2.1 = s1.2.1 := c4
      have c5 : s2.2.2.2 = s1.2.2.2 := c5
      refine ⟨s2, ⟨by rw [lsi_s hi]; exact c2, fun _ => by rw [lsi_s hi]; exact c1, fun q => by omega, ?_, ?_, ⟨fun k hk => ?_, ?_⟩, by omega, ?_, fun hx => by rw [c5]; exact b8 (a9 hx)⟩, fun q X kk => ?_⟩
      · rw [hlen]; show s2.1 22 0 = _; rw [c3]; exact b2
      · intro j hj; show s2.1 22 j = _; rw [c3]; exact h5 j hj
      · show s2.1 k = _; rw [c3]; exact f1.1 k hk
      · show s2.2.1 = _; rw [c4]; exact f1.2
      · rw [hlen, c5]; exact b6
      · obtain ⟨kk0, kk⟩ := kk
        refine ⟨by omega, fun f hf => ?_⟩
        rw [dI_s]
        refine sg_K_layRow_11_ff11 X (f, s) _ _ _ (8 * (8 * x + a) + i) δ s1 s2 (by omega) (by omega) (dI_nn (by omega)) (n8 _ i) (by omega) (by rw [ek]; exact t f) (by omega) (by omega) (by rw [show (0 : Int32) = nI 0 from rfl, n_le (by omega) (by omega)]; omega) (fun f' hf' => t2 f') (fun f' hf' => ?_)
        have := kk f' (fun k hk => (hf' k hk).trans (hf k hk))
        rw [c5, b5, show s.2.2.2 + δ - xn σ = (s.2.2.2 - xn σ) + δ from by omega, Nat.mul_add, Nat.mul_add] at this
        rw [dI_m]; exact this
    · have e0 : i = 0 := by omega
      subst e0
      refine ⟨s1, ⟨by rw [lsi_s hi]; exact b1, fun q => absurd q c, fun _ => ?_, ?_, h5, f1, by omega, ?_, fun hx => b8 (a9 hx)⟩, fun q X kk => ?_⟩
      · rw [lsi_s hi]; exact rvs_c (Nat.le_refl _) _ b7 a2
      · rw [hlen]; exact b2
      · rw [hlen]; exact b6
      · obtain ⟨kk0, kk⟩ := kk
        refine ⟨by omega, fun f hf => ?_⟩
        rw [dI_s]
        refine sg_K_layRow_11_ft11 X (f, s) _ _ _ (8 * (8 * x + a) + 0) δ s1 (by omega) (by omega) (dI_nn (by omega)) (n8 _ 0) (by omega) (by rw [ek]; exact t f) (by omega) (by omega) (by decide) (fun f' hf' => ?_)
        have := kk f' (fun k hk => (hf' k hk).trans (hf k hk))
        rw [b5, show s.2.2.2 + δ - xn σ = (s.2.2.2 - xn σ) + δ from by omega, Nat.mul_add, Nat.mul_add] at this
        rw [dI_m]; exact this) (gL g (8 * x + a)) σ.2 (Nat.le_refl _) (by
      rw [lsi_e]
      exact ⟨hs, fun _ => hv, fun _ => rvs_tail l hv, hK, fun _ _ => rfl, FK.refl _ _, Nat.le_refl _, hm, fun h => h⟩)
  obtain ⟨a7, a8, a9⟩ := a7
  refine ⟨s.2.2.2 - xn σ, s, ⟨a1, a3 rfl, a4, a5, a6, by show s.2.2.2 = _; omega, a8, a9⟩, fun f => ?_⟩
  refine Ct.of (by decide +kernel) (Nat.le_of_ble_eq_true rfl) (fun K X => ?_)
  have e3 : xi (f, σ.2) 3 (8 * x + a) = nI (gL g (8 * x + a)) := hg.2.2.1 _ hr
  refine sg_K_layRow_0_11 (cc := 0) (ss := 0) X (f, σ.2) _ _ (8 * x + a) (Nat.zero_le _) (Nat.zero_le _) rfl hr ?_
  rw [e3, dI_n]
  have fin := (k1 ((K, WC G (f, σ.2), PA G f none s), f, s.2.2.2 - xn σ) X ⟨by show s.2.2.2 ≤ xn σ + (s.2.2.2 - xn σ); omega, fun f' hf' => sg_K_layRow_11_tr X (f', s) _ _ _ (Nat.le_refl _) (Nat.le_refl _) dI_0 ⟨rfl, f', hf', rfl⟩⟩).2 f (fun _ _ => rfl)
  have e0 : (f, σ.2).2.2.2.2 - xn σ = 0 := Nat.sub_self _
  have fin : Lb K G (WC G (f, σ.2)) (Qe K G (WC G (f, σ.2)) (PA G f none s) (rmk rm_K_layRow (s.2.2.2 - xn σ))) 4 11 [(0, .ref (f 22)), (1, .int (nI (8 * x + a))), (2, .int (nI nd)), (3, .int (dI (gL g (8 * x + a))))] [] (WC G (f, σ.2)) (2 * (xn σ - xn σ)) (64 * (xn σ - xn σ)) := fin
  rw [Nat.sub_self] at fin
  exact fin
