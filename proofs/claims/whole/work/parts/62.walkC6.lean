/-! the walk's derive -/
theorem k_derive (G : GG) {g : Gr} {T : Nat → Int} {m e : Nat} {σ : St} (hw : WF g) (hg : GC g σ) (h0 : 0 < gR g) (h2 : NoF (F2 g) (gR g)) (hT : WT T m) (he : e ≤ 60) (hC : okC g T e σ) (hI : ∀ i, i < 60 → xi σ 11 i = sI (T i)) (hEn : En g T e 0 0 e) :
    ∃ (r : Int32) (δ : Nat) (s : Sq), ((r = 1 ∧ ∃ k, (itr g T e (fun _ _ => 0) k).1 = [] ∧ (itr g T e (fun _ _ => 0) k).2.2.1 ≤ 2000 ∧ xi (xa σ, s) 26 0 = nI (itr g T e (fun _ _ => 0) k).2.2.1 ∧ ∀ v, v < (itr g T e (fun _ _ => 0) k).2.2.1 → ∀ j, j < 7 → xi (xa σ, s) 27 (7 * v + j) = sI ((itr g T e (fun _ _ => 0) k).2.2.2 v j)) ∨
        (r = 0 ∧ ∃ k, 2000 < due (itr g T e (fun _ _ => 0) k))) ∧ FK pK σ (xa σ, s) ∧ xn (xa σ, s) = xn σ + δ ∧ (xn σ ≤ 2061 → xn (xa σ, s) ≤ 2061) ∧
      ∀ f : Nat → Nat, Ct y_K_derive c_K_derive 4 (some .boolean) (rmk rm_K_derive δ) G [.ref (f 22), .ref (f 26)] (WC G (f, σ.2)) (PA G f (some (.int r)) s) := by
  have hJ := fun k => J_itr (d0 := fun _ _ => 0) hw h2 h0 hEn k
  -- the beginning
  have f1 : FK pK σ (wi (wi (wi σ 26 0 0) 22 1 0) 22 2 1) := (((FK.refl pK σ).i (.inr (.inl rfl)) _ _).i (.inl rfl) _ _).i (.inl rfl) _ _
  obtain ⟨δ1, s1, ⟨b1, b2, b3, b4, b5, b6, b7⟩, t1⟩ := k_layBottom G (g := g) (T := T) (σ := wi (wi (wi σ 26 0 0) 22 1 0) 22 2 1) he (by exact hC.1)
  have b4 : FK (inR 22 22) (wi (wi (wi σ 26 0 0) 22 1 0) 22 2 1) (xa σ, s1) := b4
  have b5 : s1.2.2.2 = xn σ + δ1 := b5
  have b7 : xn σ ≤ 2061 → s1.2.2.2 ≤ 2061 := b7
  have f2 : FK pK σ (xa σ, s1) := f1.trans (b4.mono (fun k hk => .inl (by have := hk.1; have := hk.2; omega)))
  obtain ⟨δ2, s2, ⟨c1, c2, c3, c4, c5, c6, c7, c8⟩, t2⟩ := k_lay G (σ := (xa σ, s1)) (z := -1) (v := -1) (l := []) b6 (by decide) b2 trivial
  have c4 : FK (inR 22 22) (xa σ, s1) (xa σ, s2) := c4
  have c5 : s2.2.2.2 = s1.2.2.2 + δ2 := c5
  have f3 : FK pK σ (xa σ, s2) := f2.trans (c4.mono (fun k hk => .inl (by have := hk.1; have := hk.2; omega)))
  have hKA0 : KA g T e (xa σ, s2) 0 := by
    refine ⟨c1, rvs_c (Nat.le_refl _) [] c7 b1, c2, ?_, ?_, ?_, fun v hv => absurd hv (Nat.not_lt_zero _), c6⟩
    · rw [c3 1 (by decide), b3 1 (by decide)]; rfl
    · rw [c3 2 (by decide), b3 2 (by decide)]; rfl
    · rw [c4.1 26 (by decide), b4.1 26 (by decide)]; rfl
  obtain ⟨⟨r, s⟩, ⟨hP1, hP2, hP3, hP4⟩, k1⟩ := iterE (α := Sq) (β := Int32 × Sq) (κ := KP × (Nat → Nat) × Nat) (C := fun q => Bd q.1.1 G q.1.2.1 "FirstTrees$Walk" c_K_derive 4 (some .boolean) (rmk rm_K_derive q.2.2)) 2061
    (fun i s => ∃ k, KA g T e (xa σ, s) k ∧ due (itr g T e (fun _ _ => 0) k) ≤ 2000 ∧ i = (itr g T e (fun _ _ => 0) k).2.2.1 + (itr g T e (fun _ _ => 0) k).2.1 ∧ FK pK σ (xa σ, s) ∧ xn σ ≤ s.2.2.2 ∧ (xn σ ≤ 2061 → s.2.2.2 ≤ 2061))
    (fun q i s => s.2.2.2 ≤ xn σ + q.2.2 ∧ ∀ f : Nat → Nat, (∀ k, k < 28 → f k = q.2.1 k) → Lb q.1.1 G q.1.2.1 (Qe q.1.1 G q.1.2.1 q.1.2.2 (rmk rm_K_derive q.2.2)) 4 26 [(0, .ref (f 22)), (1, .ref (f 26)), (2, .int (nI i))] [] (WC G (f, s)) (2 * (s.2.2.2 - xn σ)) (64 * (s.2.2.2 - xn σ)))
    (fun b => ((b.1 = 1 ∧ ∃ k, (itr g T e (fun _ _ => 0) k).1 = [] ∧ (itr g T e (fun _ _ => 0) k).2.2.1 ≤ 2000 ∧ xi (xa σ, b.2) 26 0 = nI (itr g T e (fun _ _ => 0) k).2.2.1 ∧ ∀ v, v < (itr g T e (fun _ _ => 0) k).2.2.1 → ∀ j, j < 7 → xi (xa σ, b.2) 27 (7 * v + j) = sI ((itr g T e (fun _ _ => 0) k).2.2.2 v j)) ∨
        (b.1 = 0 ∧ ∃ k, 2000 < due (itr g T e (fun _ _ => 0) k))) ∧ FK pK σ (xa σ, b.2) ∧ xn σ ≤ b.2.2.2.2 ∧ (xn σ ≤ 2061 → b.2.2.2.2 ≤ 2061))
    (fun q b => b.2.2.2.2 ≤ xn σ + q.2.2 ∧ ∀ f : Nat → Nat, (∀ k, k < 28 → f k = q.2.1 k) → q.1.2.2 (some (.int b.1)) (WC G (f, b.2))) (by
    intro i s hi ⟨k0, hA0, hd0, hi0, hF, hx1, hx2⟩
    obtain ⟨k, hA, e1, e2, e3, e4⟩ := KA_skip _ k0 rfl hA0
    rw [← e1, ← e2] at hi0
    rw [← e3] at hd0
    obtain ⟨⟨j1, j2, j3, j4, j5⟩, hJ2⟩ := hJ k
    have hdn : (itr g T e (fun _ _ => 0) k).2.2.1 ≤ 2000 := by unfold due at hd0; omega
    have hstp : itr g T e (fun _ _ => 0) (k + 1) = stp g T e (itr g T e (fun _ _ => 0) k) := rfl
    unfold KA at hA
    generalize hS : itr g T e (fun _ _ => 0) k = S at *
    obtain ⟨it, p, n, d⟩ := S
    have hi0 : i = n + p := hi0
    have hdn : n ≤ 2000 := hdn
    have j1 : p ≤ e := j1
    obtain ⟨a1, a2, a3, a4, a5, a6, a7, a8⟩ := hA
    have a4 : xi (xa σ, s) 22 1 = nI p := a4
    have a6 : xi (xa σ, s) 26 0 = nI n := a6
    have a7 : TF g d n (xa σ, s) := a7
    rcases e4 with e4 | ⟨z, v, l, e4, e5⟩
    · have e4 : it = [] := e4
      subst e4
      have a3 : xi (xa σ, s) 22 0 = nI 0 := a3
      obtain ⟨s3, ⟨q1, q2, q3⟩, t3⟩ := k_findEnds G (σ := (xa σ, s)) (g := g) (e := e) he hdn a6 a7 hJ2.2.2.2 (J2_end hJ2)
      have q2 : FK (inR 27 27) (xa σ, s) (xa σ, s3) := q2
      have q3 : s3.2.2 = s.2.2 := q3
      refine .inl ⟨(1, s3), ⟨.inl ⟨rfl, k, by rw [hS], by rw [hS]; exact hdn, ?_, ?_⟩, hF.trans (q2.mono (fun k hk => .inr (.inr (by have := hk.1; have := hk.2; omega)))), ?_, ?_⟩, fun q X kk => ?_⟩
      · rw [hS]; show xi (xa σ, s3) 26 0 = nI n; rw [q2.1 26 (by decide)]; exact a6
      · rw [hS]; exact q1
      · show xn σ ≤ s3.2.2.2; rw [q3]; exact hx1
      · intro w; show s3.2.2.2 ≤ 2061; rw [q3]; exact hx2 w
      · obtain ⟨kk0, kk⟩ := kk
        have kk0 : s3.2.2.2 ≤ xn σ + q.2.2 := kk0
        rw [q3] at kk0
        refine ⟨kk0, fun f hf => ?_⟩
        by_cases c : 2060 ≤ i
        · exact sg_K_derive_26_tr X (f, s) _ s3 (by omega) (by omega) (by rw [show (2060 : Int32) = nI 2060 from rfl, n_le (by omega) (by omega)]; exact c) (t3 f) (kk f hf)
        · exact sg_K_derive_26_ftr X (f, s) _ s3 (by omega) (by omega) (by rw [show (2060 : Int32) = nI 2060 from rfl, n_le (by omega) (by omega)]; exact c) (by show xi (xa σ, s) 22 0 ≤ 0; rw [a3]; decide) (t3 f) (kk f hf)
    · have e4 : it = (z, v) :: l := e4
      subst e4
      have j2 : LV g (sms ((z, v) :: l)) := j2
      have j3 : RR g T e (sms ((z, v) :: l)) p = e + 1 := j3
      rw [sms_sym e5, sms_fit] at j2 j3
      have hzb := j4 (z, v) List.mem_cons_self e5
      have hzb : -16 ≤ z ∧ z ≤ 31 := hzb
      have a1 : stk (xa σ, s) (fit ((z, v) :: l)) := a1
      have a2 : rvs g T e p (xa σ, s) (fit ((z, v) :: l)).tail := a2
      have a3 : xi (xa σ, s) 22 0 = nI (fit ((z, v) :: l)).length := a3
      have a8 : (fit ((z, v) :: l)).length < xn (xa σ, s) := a8
      rw [fit_sy e5] at a1 a2 a3 a8
      have a2 : rvs g T e p (xa σ, s) (fit l) := a2
      have a3 : xi (xa σ, s) 22 0 = nI ((fit l).length + 1) := a3
      have a8 : (fit l).length + 1 < xn (xa σ, s) := a8
      obtain ⟨a11, a12, a13⟩ := a1
      have hdue : due ((z, v) :: l, p, n, d) = n + ((if z < 0 then 1 else 0) + rls ((fit l).map Prod.fst)) := by
        unfold due; rw [sms_sym e5, sms_fit]; rfl
      have a5 : xi (xa σ, s) 22 2 = nI (due ((z, v) :: l, p, n, d)) := a5
      have hlen : (fit l).length + 1 ≤ 2060 := by
        have h1 := Gd_tks _ j2 p j1 j3
        have h2 := tr_len ((fit l).map Prod.fst)
        rw [List.length_map] at h2
        rw [hdue] at hd0
        by_cases c : z < 0
        · rw [if_pos c] at hd0
          simp only [tks, if_neg (show ¬ 0 ≤ z by omega)] at h1
          omega
        · rw [if_neg c] at hd0
          simp only [tks, if_pos (show 0 ≤ z by omega)] at h1
          omega
      have c37 : ∀ f : Nat → Nat, ¬ xi (f, s) 22 0 ≤ 0 := fun f => by
        show ¬ xi (xa σ, s) 22 0 ≤ 0
        rw [a3, show (0 : Int32) = nI 0 from rfl, n_le (by omega) (by omega)]; omega
      have hpop : ∀ f : Nat → Nat, xi (f, s) 22 0 - 1 = nI (fit l).length := fun f => by
        show xi (xa σ, s) 22 0 - 1 = _
        rw [a3, n_p (by omega)]; rfl
      by_cases c : z < 0
      · rw [if_pos c] at hdue
        have c30 : ¬ (2060 : Int32) ≤ nI i := by
          rw [show (2060 : Int32) = nI 2060 from rfl, n_le (by omega) (by omega)]
          rw [hdue] at hd0; omega
        have hv1 : -1 ≤ v := by
          obtain ⟨⟨w, hw1, hw2⟩, _⟩ := hJ2
          have hw2 : fr g n d ((z, v) :: l) p 0 0 w := hw2
          rw [fr_rl e5 c] at hw2
          rcases fr_op l _ _ _ _ hw2.2 with q | ⟨q, q1, _⟩
          · rw [hw2.1, q]; omega
          · rw [hw2.1, q1]; omega
        have f4 : FK pK σ (wi (xa σ, s) 22 0 (nI (fit l).length)) := hF.i (.inl rfl) _ _
        obtain ⟨r, δ, s3, hr, hF3, hx3, hb3, t3⟩ := k_replace G (σ := wi (xa σ, s) 22 0 (nI (fit l).length)) (v := v) (l := fit l) (p := p) (u := due ((z, v) :: l, p, n, d)) (n := n) (d := d) hw (hg.fk f4 (by decide)) h2 hT he (hC.fk f4 (by decide)) (by rw [f4.1 11 (by decide)]; exact hI) ⟨hzb.1, c⟩ hv1 j1 j2 j3 (by rw [hdue]; omega) hd0 (rvs_c (σ := (xa σ, s)) (Nat.le_refl _) _ (fun _ _ => rfl) a2) (stk_c (σ := (xa σ, s)) _ (fun _ _ => rfl) a13) rfl a4 a5 a6 a7 (by show (fit l).length < xn (xa σ, s); omega)
        have hx3 : s3.2.2.2 = s.2.2.2 + δ := hx3
        have hF3 : FK pK (wi (xa σ, s) 22 0 (nI (fit l).length)) (xa σ, s3) := hF3
        have hb3 : s.2.2.2 ≤ 2061 → s3.2.2.2 ≤ 2061 := hb3
        have hnx : itr g T e (fun _ _ => 0) (k + 1) = (itm n (rsy g (8 * rl z + chs g T e (rl z) p (sms l)) 0) ++ (-100 - (n : Int), (n : Int)) :: l, p, n + 1, nwD d n (rl z) (chs g T e (rl z) p (sms l)) p v (lok g T e (rl z) p (sms l) (chs g T e (rl z) p (sms l)))) := by
          rw [hstp, stp_rul e5 c]
        rw [sms_fit] at hnx
        have hlow : ∀ y, y ∈ rsy g (8 * rl z + chs g T e (rl z) p ((fit l).map Prod.fst)) 0 → -100 < y := fun y hy => by have := rsy_low hw y hy; omega
        have hdue2 : due (itr g T e (fun _ _ => 0) (k + 1)) = due ((z, v) :: l, p, n, d) + rin g (8 * rl z + chs g T e (rl z) p ((fit l).map Prod.fst)) := by
          rw [hnx, hdue]
          unfold due
          simp only []
          rw [sms_itm _ hlow, sms_mark (by omega), rls_app, sms_fit]
          unfold rin; omega
        have hseg : ∀ f : Nat → Nat, Ct y_K_replace c_K_replace 8 (some .boolean) (rmk rm_K_replace δ) G [.ref (f 22), .int ((-1) - xp (wi (f, s) 22 0 (xi (f, s) 22 0 - 1)) (2 * ((fit l).length + 1)) 0), .int (xp (wi (f, s) 22 0 (xi (f, s) 22 0 - 1)) (2 * ((fit l).length + 1)) 1), .ref (f 26)] (WC G (wi (f, s) 22 0 (xi (f, s) 22 0 - 1))) (PA G f (some (.int r)) s3) := fun f => by
          have g1 : xp (wi (f, s) 22 0 (xi (f, s) 22 0 - 1)) (2 * ((fit l).length + 1)) 0 = sI z := a11
          have g2 : xp (wi (f, s) 22 0 (xi (f, s) 22 0 - 1)) (2 * ((fit l).length + 1)) 1 = sI v := a12
          rw [g1, g2, rl_sI c, hpop f]
          exact t3 f
        have c67 : ∀ f : Nat → Nat, b2i (decide (0 ≤ xp (wi (f, s) 22 0 (xi (f, s) 22 0 - 1)) (2 * ((fit l).length + 1)) 0)) = 0 := fun f => by
          have g1 : xp (wi (f, s) 22 0 (xi (f, s) 22 0 - 1)) (2 * ((fit l).length + 1)) 0 = sI z := a11
          rw [g1]; exact tok_0 hzb.1 hzb.2 c
        rcases hr with ⟨hr, hr2⟩ | ⟨hr, hKR, hr2⟩
        · subst hr
          refine .inl ⟨(0, s3), ⟨.inr ⟨rfl, k + 1, by rw [hdue2]; exact hr2⟩, f4.trans hF3, by show xn σ ≤ s3.2.2.2; omega, fun w => hb3 (hx2 w)⟩, fun q X kk => ?_⟩
          obtain ⟨kk0, kk⟩ := kk
          have kk0 : s3.2.2.2 ≤ xn σ + q.2.2 := kk0
          refine ⟨by omega, fun f hf => ?_⟩
          exact sg_K_derive_26_fftfr X (f, s) _ ((fit l).length + 1) 0 δ s3 (by omega) (by omega) c30 (c37 f) a3 (by omega) a8 (c67 f) (hseg f) (by omega) (by omega) rfl (fun f' hf' => kk f' (fun k hk => (hf' k hk).trans (hf k hk)))
        · subst hr
          refine .inr ⟨s3, ⟨k + 1, ?_, by rw [hdue2]; exact hr2, ?_, f4.trans hF3, by omega, fun w => hb3 (hx2 w)⟩, fun q X kk => ?_⟩
          · unfold KA
            rw [hdue2, hnx]
            show KR g T e (xa σ, s3) (fit (itm n (rsy g (8 * rl z + chs g T e (rl z) p ((fit l).map Prod.fst)) 0) ++ (-100 - (n : Int), (n : Int)) :: l)) p _ (n + 1) _
            rw [fit_itm _ hlow, fit_mk (by omega)]
            exact hKR
          · rw [hnx]; show i + 1 = n + 1 + p; omega
          · obtain ⟨kk0, kk⟩ := kk
            refine ⟨by omega, fun f hf => ?_⟩
            refine sg_K_derive_26_fftt26 X (f, s) _ ((fit l).length + 1) 1 δ s3 (by omega) (by omega) c30 (c37 f) a3 (by omega) a8 (c67 f) (hseg f) (by omega) (by omega) i1n0 (fun f' hf' => ?_)
            have := kk f' (fun k hk => (hf' k hk).trans (hf k hk))
            rw [hx3, show s.2.2.2 + δ - xn σ = (s.2.2.2 - xn σ) + δ from by omega, Nat.mul_add, Nat.mul_add] at this
            rw [n_s]; exact this
      · rw [if_neg c] at hdue
        have hz0 : 0 ≤ z := by omega
        have ht := Gd_tks _ j2 p j1 j3
        simp only [tks, if_pos hz0] at ht
        have c30 : ¬ (2060 : Int32) ≤ nI i := by
          rw [show (2060 : Int32) = nI 2060 from rfl, n_le (by omega) (by omega)]; omega
        have hnx : itr g T e (fun _ _ => 0) (k + 1) = (l, p + 1, n, d) := by rw [hstp, stp_tok hz0]
        have hdue2 : due (itr g T e (fun _ _ => 0) (k + 1)) = due ((z, v) :: l, p, n, d) := by
          rw [hnx, hdue]; show n + rls (sms l) = _; rw [sms_fit]; omega
        have hs2 : ∀ f : Nat → Nat, wi (wi (f, s) 22 0 (xi (f, s) 22 0 - 1)) 22 1 (xi (f, s) 22 1 + 1) = (f, (wi (wi (xa σ, s) 22 0 (nI (fit l).length)) 22 1 (nI (p + 1))).2) := fun f => by
          have g2 : xi (f, s) 22 1 = nI p := a4
          rw [hpop f, g2, n_s]; rfl
        refine .inr ⟨(wi (wi (xa σ, s) 22 0 (nI (fit l).length)) 22 1 (nI (p + 1))).2, ⟨k + 1, ?_, by rw [hdue2]; exact hd0, by rw [hnx]; show i + 1 = n + (p + 1); omega, (hF.i (.inl rfl) _ _).i (.inl rfl) _ _, hx1, hx2⟩, fun q X kk => ?_⟩
        · unfold KA
          rw [hdue2, hnx]
          show KR g T e (xa σ, (wi (wi (xa σ, s) 22 0 (nI (fit l).length)) 22 1 (nI (p + 1))).2) (fit l) (p + 1) (due ((z, v) :: l, p, n, d)) n d
          exact ⟨stk_c (σ := (xa σ, s)) (fit l) (fun _ _ => rfl) a13, rvs_c (σ := (xa σ, s)) (p := p) (Nat.le_succ p) (fit l).tail (fun _ _ => rfl) (rvs_tail _ a2), rfl, rfl, a5, a6, a7, by show (fit l).length < xn (xa σ, s); omega⟩
        · obtain ⟨kk0, kk⟩ := kk
          refine ⟨kk0, fun f hf => ?_⟩
          have g1 : xp (wi (f, s) 22 0 (xi (f, s) 22 0 - 1)) (2 * ((fit l).length + 1)) 0 = sI z := a11
          refine sg_K_derive_26_fff26 X (f, s) _ ((fit l).length + 1) (by have kk0 : s.2.2.2 ≤ xn σ + q.2.2 := kk0; omega) (by have kk0 : s.2.2.2 ≤ xn σ + q.2.2 := kk0; omega) c30 (c37 f) a3 (by omega) a8 (by rw [g1, tok_1 hzb.1 hzb.2 c]; decide) ?_
          rw [hs2 f, n_s]
          exact kk f hf) (by
    intro s ⟨k, hA, hd, hi, _⟩
    exfalso
    have h1 := (hJ k).1.1
    unfold due at hd
    omega) 0 s2 (by omega) ⟨0, hKA0, by show 0 + 1 ≤ 2000; omega, rfl, f3, by omega, fun w => c8 (b7 w)⟩
  refine ⟨r, s.2.2.2 - xn σ, s, hP1, hP2, by have hP3 : xn σ ≤ s.2.2.2 := hP3; show s.2.2.2 = _; omega, hP4, fun f => ?_⟩
  have hP3 : xn σ ≤ s.2.2.2 := hP3
  refine Ct.of (by decide +kernel) (Nat.le_of_ble_eq_true rfl) (fun K X => ?_)
  obtain ⟨fin0, fin⟩ := k1 ((K, WC G (f, σ.2), PA G f (some (.int r)) s), f, s.2.2.2 - xn σ) X ⟨by show s.2.2.2 ≤ xn σ + (s.2.2.2 - xn σ); omega, fun f' hf' => ⟨rfl, f', hf', rfl⟩⟩
  have fin0 : s2.2.2.2 ≤ xn σ + (s.2.2.2 - xn σ) := fin0
  refine sg_K_derive_0_26 (cc := 0) (ss := 0) X (f, σ.2) (wi (f, σ.2) 26 0 0).2 δ1 s1 δ2 s2 (Nat.zero_le _) (Nat.zero_le _) (ct26_T_empty_ G (f, σ.2)) (t1 f) (by omega) (by omega) (fun f' _ => t2 f') (by omega) (by omega) (fun f' hf' => ?_)
  have := fin f' hf'
  rw [c5, b5, show xn σ + δ1 + δ2 - xn σ = δ1 + δ2 from by omega, Nat.mul_add, Nat.mul_add] at this
  rw [Nat.zero_add, Nat.zero_add]
  exact this
