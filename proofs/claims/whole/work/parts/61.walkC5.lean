/-! the tree's ends -/
def psZ (d : Nat → Nat → Int) (n i : Nat) (u : Int) : Int := sumZ (fun c => if i ≤ c ∧ d c 4 = u then d c 3 - d c 2 else 0) n
theorem psZ_s {d : Nat → Nat → Int} {n i : Nat} {u : Int} (hi : i < n) : psZ d n i u = psZ d n (i + 1) u + (if d i 4 = u then d i 3 - d i 2 else 0) := by
  refine sumZ_upd hi (fun j _ hj => ?_) ?_
  · by_cases c : i ≤ j ∧ d j 4 = u
    · rw [if_pos c, if_pos ⟨by omega, c.2⟩]
    · rw [if_neg c, if_neg (fun q => c ⟨by omega, q.2⟩)]
  · rw [if_neg (fun q : i + 1 ≤ i ∧ d i 4 = u => by omega)]
    by_cases c : d i 4 = u
    · rw [if_pos ⟨Nat.le_refl _, c⟩, if_pos c]; omega
    · rw [if_neg (fun q => c q.2), if_neg c]; omega
theorem psZ_e {d : Nat → Nat → Int} {n : Nat} {u : Int} : psZ d n n u = 0 := sumZ_0 (fun c hc => if_neg (fun q => by omega))
theorem psZ_f {d : Nat → Nat → Int} {n u i : Nat} (h : ∀ c, c < n → d c 4 < c) (hi : i ≤ u + 1) : psZ d n i u = sumZ (fun c => if d c 4 = u then d c 3 - d c 2 else 0) n := by
  refine sumZ_congr (fun c hc => ?_)
  by_cases q : d c 4 = u
  · have := h c hc
    rw [if_pos q, if_pos ⟨by omega, q⟩]
  · rw [if_neg q, if_neg (fun w => q w.2)]
theorem k_findEnds (G : GG) {g : Gr} {e n : Nat} {σ : St} {d : Nat → Nat → Int} (he : e ≤ 60) (hn : n ≤ 2000) (hN : xi σ 26 0 = nI n) (hTF : TF g d n σ) (hRg : Rg g e n d) (hE : ∀ u, u < n → d u 5 = rin g (nrow d u) ∧ d u 3 - d u 2 = own g (nrow d u) + sumZ (fun c => if d c 4 = u then d c 3 - d c 2 else 0) n ∧ d u 3 ≠ -1) :
    ∃ s : Sq, ((∀ v, v < n → ∀ j, j < 7 → xi (xa σ, s) 27 (7 * v + j) = sI (d v j)) ∧ FK (inR 27 27) σ (xa σ, s) ∧ s.2.2 = σ.2.2.2) ∧ ∀ f : Nat → Nat, Ct y_T_findEnds c_T_findEnds 5 none rm_T_findEnds G [.ref (f 26)] (WC G (f, σ.2)) (eqp none (WC G (f, s))) := by
  obtain ⟨s, ⟨a1, a2, a3, a4⟩, k1⟩ := iterD (α := Sq) (κ := KP × (Nat → Nat)) (C := fun q => Bd q.1.1 G q.1.2.1 "FirstTrees$Tree" c_T_findEnds 5 none rm_T_findEnds)
    (fun i s => (∀ v, v < n → ∀ j, j < 7 → j ≠ 3 → xi (xa σ, s) 27 (7 * v + j) = xi σ 27 (7 * v + j)) ∧ (∀ v, v < n → xi (xa σ, s) 27 (7 * v + 3) = sI (if i ≤ v then d v 3 else own g (nrow d v) + psZ d n i v)) ∧ FK (inR 27 27) σ (xa σ, s) ∧ s.2.2 = σ.2.2.2)
    (fun q i s => Lb q.1.1 G q.1.2.1 (Qe q.1.1 G q.1.2.1 q.1.2.2 rm_T_findEnds) 5 7 [(0, .ref (q.2 26)), (1, .int (dI i))] [] (WC G (q.2, s)) 0 0) n (by
    intro i s hi ⟨a1, a2, a3, a4⟩
    obtain ⟨r1, r2, r3, r4, r5⟩ := hRg i hi
    obtain ⟨t0, t1, t2, t3, t4, t5, t6⟩ := hTF i hi
    have e4 : ∀ f : Nat → Nat, xi (f, s) 27 (7 * i + 4) = sI (d i 4) := fun f => (a1 i hi 4 (by omega) (by omega)).trans t4
    have e2 : ∀ f : Nat → Nat, xi (f, s) 27 (7 * i + 2) = sI (d i 2) := fun f => (a1 i hi 2 (by omega) (by omega)).trans t2
    have hdi : d i 3 - d i 2 = own g (nrow d i) + psZ d n (i + 1) i := by rw [psZ_f (fun c hc => (hRg c hc).1.2) (Nat.le_refl _)]; exact (hE i hi).2.1
    have e3 : ∀ f : Nat → Nat, xi (f, s) 27 (7 * i + 3) = sI (d i 3 - d i 2) := fun f => by
      have := a2 i hi
      rw [if_neg (by omega)] at this
      rw [hdi]; exact this
    by_cases c : d i 4 = -1
    · refine ⟨(wi (xa σ, s) 27 (7 * i + 3) (sI (d i 3))).2, ⟨fun v hv j hj hj3 => ?_, fun v hv => ?_, a3.i (by decide) _ _, a4⟩, fun q X kk => ?_⟩
      · show upd (xi (xa σ, s) 27) (7 * i + 3) _ (7 * v + j) = _
        rw [upd_ne _ _ (by omega)]; exact a1 v hv j hj hj3
      · show upd (xi (xa σ, s) 27) (7 * i + 3) _ (7 * v + 3) = _
        by_cases ev : v = i
        · subst ev; rw [upd_at, if_pos (Nat.le_refl _)]
        · rw [upd_ne _ _ (by omega), a2 v hv]
          by_cases w : i ≤ v
          · rw [if_pos w, if_pos (by omega)]
          · rw [if_neg w, if_neg (by omega), psZ_s hi, if_neg (by omega), Int.add_zero]
      · rw [dI_s]
        refine sg26_T_findEnds_7_ft7 X (q.2, s) _ (7 * i + 3) (7 * i + 4) (7 * i + 2) (dI_nn (by omega)) (m7 i 3) (by omega) (m7 i 4) (by omega) (by rw [e4, c]; rfl) (m7 i 2) (by omega) ?_
        rw [e2, e3, sI_add, show d i 2 + (d i 3 - d i 2) = d i 3 from by omega, dI_m]; exact kk
    · obtain ⟨w, hw⟩ : ∃ w : Nat, d i 4 = w := ⟨(d i 4).toNat, by omega⟩
      have hwi : w < i := by omega
      have e5 : ∀ f : Nat → Nat, xi (f, s) 27 (7 * w + 3) = sI (own g (nrow d w) + psZ d n (i + 1) w) := fun f => by
        have := a2 w (by omega)
        rw [if_neg (by omega)] at this; exact this
      refine ⟨(wi (wi (xa σ, s) 27 (7 * w + 3) (sI (own g (nrow d w) + psZ d n (i + 1) w + (d i 3 - d i 2)))) 27 (7 * i + 3) (sI (d i 3))).2, ⟨fun v hv j hj hj3 => ?_, fun v hv => ?_, (a3.i (by decide) _ _).i (by decide) _ _, a4⟩, fun q X kk => ?_⟩
      · show upd (upd (xi (xa σ, s) 27) (7 * w + 3) _) (7 * i + 3) _ (7 * v + j) = _
        rw [upd_ne _ _ (by omega), upd_ne _ _ (by omega)]; exact a1 v hv j hj hj3
      · show upd (upd (xi (xa σ, s) 27) (7 * w + 3) _) (7 * i + 3) _ (7 * v + 3) = _
        by_cases ev : v = i
        · subst ev; rw [upd_at, if_pos (Nat.le_refl _)]
        · rw [upd_ne _ _ (by omega)]
          by_cases ew : v = w
          · subst ew
            rw [upd_at, if_neg (by omega), psZ_s hi, if_pos hw]; congr 1; omega
          · rw [upd_ne _ _ (by omega), a2 v hv]
            by_cases w2 : i ≤ v
            · rw [if_pos w2, if_pos (by omega)]
            · rw [if_neg w2, if_neg (by omega), psZ_s hi, if_neg (by omega), Int.add_zero]
      · rw [dI_s]
        have e2' : xi (wi (q.2, s) 27 (7 * w + 3) (xi (q.2, s) 27 (7 * w + 3) + xi (q.2, s) 27 (7 * i + 3))) 27 (7 * i + 2) = sI (d i 2) := by
          show upd (xi (q.2, s) 27) (7 * w + 3) _ (7 * i + 2) = _
          rw [upd_ne _ _ (by omega)]; exact e2 q.2
        refine sg26_T_findEnds_7_ff7 X (q.2, s) _ (7 * i + 3) (7 * i + 4) (7 * w + 3) (7 * i + 2) (dI_nn (by omega)) (m7 i 3) (by omega) (m7 i 4) (by omega) (by rw [e4, show (-1 : Int32) = sI (-1) from rfl, sI_eq (by omega) (by omega) (by omega) (by omega)]; exact c) (by rw [e4, hw]; exact m7 w 3) (by omega) (m7 i 2) (by omega) ?_
        rw [e2', e5, e3, sI_add, sI_add, show d i 2 + (d i 3 - d i 2) = d i 3 from by omega, dI_m]; exact kk) n σ.2 (Nat.le_refl _) ⟨fun _ _ _ _ _ => rfl, fun v hv => by
      rw [if_neg (by omega), psZ_e, Int.add_zero]; exact (hTF v hv).2.2.2.1, FK.refl _ _, rfl⟩
  refine ⟨s, ⟨fun v hv j hj => ?_, a3, a4⟩, fun f => ?_⟩
  · obtain ⟨t0, t1, t2, t3, t4, t5, t6⟩ := hTF v hv
    by_cases c : j = 3
    · subst c
      have := a2 v hv
      rw [if_pos (Nat.zero_le _)] at this; exact this
    · rw [a1 v hv j hj c]
      have hj : j = 0 ∨ j = 1 ∨ j = 2 ∨ j = 4 ∨ j = 5 ∨ j = 6 := by omega
      rcases hj with rfl | rfl | rfl | rfl | rfl | rfl
      · exact t0
      · exact t1
      · exact t2
      · exact t4
      · rw [t5, (hE v hv).1]; rfl
      · exact t6
  · refine Ct.of (by decide +kernel) (Nat.le_of_ble_eq_true rfl) (fun K X => ?_)
    have e26 : xi (f, σ.2) 26 0 = nI n := hN
    refine sg26_T_findEnds_0_7 X (f, σ.2) ?_
    rw [e26, dI_n]
    exact k1 ((K, _, _), f) X (sg26_T_findEnds_7_tr X (f, s) _ dI_0 ⟨rfl, rfl⟩)
/-! the walk -/
def fit : Itm → List (Int × Int)
  | [] => []
  | (s, v) :: l => if s ≤ -100 then fit l else (s, v) :: fit l
theorem sms_fit (it : Itm) : sms it = (fit it).map Prod.fst := by
  induction it with
  | nil => rfl
  | cons x l ih =>
    obtain ⟨s, v⟩ := x
    show (if s ≤ -100 then sms l else s :: sms l) = (if s ≤ -100 then fit l else (s, v) :: fit l).map Prod.fst
    split
    · exact ih
    · rw [ih]; rfl
theorem fit_mk {s v : Int} {l : Itm} (h : s ≤ -100) : fit ((s, v) :: l) = fit l := by
  show (if s ≤ -100 then _ else _) = _
  rw [if_pos h]
theorem fit_sy {s v : Int} {l : Itm} (h : -100 < s) : fit ((s, v) :: l) = (s, v) :: fit l := by
  show (if s ≤ -100 then _ else _) = _
  rw [if_neg (by omega)]
theorem fit_itm {n : Nat} {l : Itm} (r : List Int) (h : ∀ z, z ∈ r → -100 < z) : fit (itm n r ++ l) = itm n r ++ fit l := by
  induction r with
  | nil => rfl
  | cons z r ih =>
    show fit ((z, (n : Int)) :: (itm n r ++ l)) = _
    rw [fit_sy (h z List.mem_cons_self), ih (fun y hy => h y (List.mem_cons_of_mem _ hy))]; rfl
theorem TF_up {g : Gr} {d : Nat → Nat → Int} {n w : Nat} {z : Int} {σ : St} (h : TF g d n σ) : TF g (upD d w 3 z) n σ := by
  intro v hv
  have e : ∀ j, j ≠ 3 → upD d w 3 z v j = d v j := fun j hj => upD_ne d z (by omega)
  have en : nrow (upD d w 3 z) v = nrow d v := by unfold nrow; rw [e 0 (by decide), e 1 (by decide)]
  rw [en, e 0 (by decide), e 1 (by decide), e 2 (by decide), e 4 (by decide), e 6 (by decide)]
  exact h v hv
/-- the component stands where the walk stands after k steps, but for markers -/
def KA (g : Gr) (T : Nat → Int) (e : Nat) (σ : St) (k : Nat) : Prop := KR g T e σ (fit (itr g T e (fun _ _ => 0) k).1) (itr g T e (fun _ _ => 0) k).2.1 (due (itr g T e (fun _ _ => 0) k)) (itr g T e (fun _ _ => 0) k).2.2.1 (itr g T e (fun _ _ => 0) k).2.2.2
theorem KA_skip {g : Gr} {T : Nat → Int} {e : Nat} {σ : St} (m : Nat) : ∀ k, (itr g T e (fun _ _ => 0) k).1.length = m → KA g T e σ k → ∃ k', KA g T e σ k' ∧ (itr g T e (fun _ _ => 0) k').2.1 = (itr g T e (fun _ _ => 0) k).2.1 ∧ (itr g T e (fun _ _ => 0) k').2.2.1 = (itr g T e (fun _ _ => 0) k).2.2.1 ∧ due (itr g T e (fun _ _ => 0) k') = due (itr g T e (fun _ _ => 0) k) ∧
    ((itr g T e (fun _ _ => 0) k').1 = [] ∨ ∃ s v l, (itr g T e (fun _ _ => 0) k').1 = (s, v) :: l ∧ -100 < s) := by
  induction m with
  | zero =>
    intro k hk h
    exact ⟨k, h, rfl, rfl, rfl, .inl (List.eq_nil_of_length_eq_zero hk)⟩
  | succ m ih =>
    intro k hk h
    generalize hS : itr g T e (fun _ _ => 0) k = S at hk
    obtain ⟨it, p, n, d⟩ := S
    cases it with
    | nil => exact absurd (show 0 = m + 1 from hk) (by omega)
    | cons x l =>
      obtain ⟨s, v⟩ := x
      by_cases c : s ≤ -100
      · have e1 : itr g T e (fun _ _ => 0) (k + 1) = (l, p, n, upD d (-100 - s).toNat 3 p) := by
          show stp g T e (itr g T e (fun _ _ => 0) k) = _
          rw [hS, stp_mark c]
        have hdue : due (itr g T e (fun _ _ => 0) (k + 1)) = due ((s, v) :: l, p, n, d) := by
          rw [e1]; unfold due; rw [sms_mark c]
        have hA : KA g T e σ (k + 1) := by
          unfold KA at h ⊢
          rw [hdue]
          rw [hS] at h
          rw [e1]
          obtain ⟨b1, b2, b3, b4, b5, b6, b7, b8⟩ := h
          rw [show fit (((s, v) :: l, p, n, d) : DS).1 = fit l from fit_mk c] at b1 b2 b3 b8
          exact ⟨b1, b2, b3, b4, b5, b6, TF_up b7, b8⟩
        obtain ⟨k', q1, q2, q3, q4, q5⟩ := ih (k + 1) (by rw [e1]; exact Nat.succ.inj hk) hA
        refine ⟨k', q1, ?_, ?_, ?_, q5⟩
        · rw [q2, e1]
        · rw [q3, e1]
        · rw [q4, hdue]
      · exact ⟨k, h, by rw [hS], by rw [hS], by rw [hS], .inr ⟨s, v, l, by rw [hS], by omega⟩⟩
