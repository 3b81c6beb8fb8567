/-! the walk's replace; the tree's facts -/
theorem m7 (a b : Nat) : nI a * 7 + nI b = nI (7 * a + b) := by
  rw [show (7 : Int32) = nI 7 from rfl, n_mul, n_add, Nat.mul_comm]
theorem m7' (a b : Nat) : 7 * nI a + nI b = nI (7 * a + b) := by
  rw [show (7 : Int32) = nI 7 from rfl, n_mul, n_add]
def TF (g : Gr) (d : Nat → Nat → Int) (n : Nat) (σ : St) : Prop := ∀ v, v < n → xi σ 27 (7 * v + 0) = sI (d v 0) ∧ xi σ 27 (7 * v + 1) = sI (d v 1) ∧ xi σ 27 (7 * v + 2) = sI (d v 2) ∧ xi σ 27 (7 * v + 3) = nI (own g (nrow d v)) ∧ xi σ 27 (7 * v + 4) = sI (d v 4) ∧ xi σ 27 (7 * v + 5) = nI (rin g (nrow d v)) ∧ xi σ 27 (7 * v + 6) = sI (d v 6)
theorem upd7 (F : Nat → Int32) (n : Nat) (a b c x y z h : Int32) :
    (∀ i, i < 7 * n → upd (upd (upd (upd (upd (upd (upd F (7 * n + 4) a) (7 * n + 5) b) (7 * n + 3) c) (7 * n + 0) x) (7 * n + 1) y) (7 * n + 2) z) (7 * n + 6) h i = F i) ∧
    upd (upd (upd (upd (upd (upd (upd F (7 * n + 4) a) (7 * n + 5) b) (7 * n + 3) c) (7 * n + 0) x) (7 * n + 1) y) (7 * n + 2) z) (7 * n + 6) h (7 * n + 0) = x ∧
    upd (upd (upd (upd (upd (upd (upd F (7 * n + 4) a) (7 * n + 5) b) (7 * n + 3) c) (7 * n + 0) x) (7 * n + 1) y) (7 * n + 2) z) (7 * n + 6) h (7 * n + 1) = y ∧
    upd (upd (upd (upd (upd (upd (upd F (7 * n + 4) a) (7 * n + 5) b) (7 * n + 3) c) (7 * n + 0) x) (7 * n + 1) y) (7 * n + 2) z) (7 * n + 6) h (7 * n + 2) = z ∧
    upd (upd (upd (upd (upd (upd (upd F (7 * n + 4) a) (7 * n + 5) b) (7 * n + 3) c) (7 * n + 0) x) (7 * n + 1) y) (7 * n + 2) z) (7 * n + 6) h (7 * n + 3) = c ∧
    upd (upd (upd (upd (upd (upd (upd F (7 * n + 4) a) (7 * n + 5) b) (7 * n + 3) c) (7 * n + 0) x) (7 * n + 1) y) (7 * n + 2) z) (7 * n + 6) h (7 * n + 4) = a ∧
    upd (upd (upd (upd (upd (upd (upd F (7 * n + 4) a) (7 * n + 5) b) (7 * n + 3) c) (7 * n + 0) x) (7 * n + 1) y) (7 * n + 2) z) (7 * n + 6) h (7 * n + 5) = b ∧
    upd (upd (upd (upd (upd (upd (upd F (7 * n + 4) a) (7 * n + 5) b) (7 * n + 3) c) (7 * n + 0) x) (7 * n + 1) y) (7 * n + 2) z) (7 * n + 6) h (7 * n + 6) = h := by
  refine ⟨fun i hi => ?_, ?_, ?_, ?_, ?_, ?_, ?_, ?_⟩
  · rw [upd_ne _ _ (by omega), upd_ne _ _ (by omega), upd_ne _ _ (by omega), upd_ne _ _ (by omega), upd_ne _ _ (by omega), upd_ne _ _ (by omega), upd_ne _ _ (by omega)]
  · rw [upd_ne _ _ (by omega), upd_ne _ _ (by omega), upd_ne _ _ (by omega), upd_at]
  · rw [upd_ne _ _ (by omega), upd_ne _ _ (by omega), upd_at]
  · rw [upd_ne _ _ (by omega), upd_at]
  · rw [upd_ne _ _ (by omega), upd_ne _ _ (by omega), upd_ne _ _ (by omega), upd_ne _ _ (by omega), upd_at]
  · rw [upd_ne _ _ (by omega), upd_ne _ _ (by omega), upd_ne _ _ (by omega), upd_ne _ _ (by omega), upd_ne _ _ (by omega), upd_ne _ _ (by omega), upd_at]
  · rw [upd_ne _ _ (by omega), upd_ne _ _ (by omega), upd_ne _ _ (by omega), upd_ne _ _ (by omega), upd_ne _ _ (by omega), upd_at]
  · rw [upd_at]
abbrev pK (k : Nat) : Prop := k = 22 ∨ k = 26 ∨ k = 27
/-- the component's walk at the pairs l, place p, due nodes u, with n nodes of the facts d -/
def KR (g : Gr) (T : Nat → Int) (e : Nat) (σ : St) (l : List (Int × Int)) (p u n : Nat) (d : Nat → Nat → Int) : Prop :=
  stk σ l ∧ rvs g T e p σ l.tail ∧ xi σ 22 0 = nI l.length ∧ xi σ 22 1 = nI p ∧ xi σ 22 2 = nI u ∧ xi σ 26 0 = nI n ∧ TF g d n σ ∧ l.length < xn σ
theorem k_replace (G : GG) {g : Gr} {T : Nat → Int} {m e : Nat} {σ : St} (hw : WF g) (hg : GC g σ) (h2 : NoF (F2 g) (gR g)) (hT : WT T m) (he : e ≤ 60) (hC : okC g T e σ) (hI : ∀ i, i < 60 → xi σ 11 i = sI (T i)) {z v : Int} {l : List (Int × Int)} {p u n : Nat} {d : Nat → Nat → Int} (hz : -16 ≤ z ∧ z < 0) (hv1 : -1 ≤ v) (hp : p ≤ e) (hl : LV g (z :: l.map Prod.fst)) (hR : RR g T e (z :: l.map Prod.fst) p = e + 1)
    (hu : u = n + 1 + rls (l.map Prod.fst)) (hu2 : u ≤ 2000) (hrv : rvs g T e p σ l) (hs : stk σ l) (hK : xi σ 22 0 = nI l.length) (hPl : xi σ 22 1 = nI p) (hD : xi σ 22 2 = nI u) (hN : xi σ 26 0 = nI n) (hTF : TF g d n σ) (hm : l.length < xn σ) :
    ∃ (r : Int32) (δ : Nat) (s : Sq), ((r = 0 ∧ 2000 < u + rin g (8 * rl z + chs g T e (rl z) p (l.map Prod.fst))) ∨
        (r = 1 ∧ KR g T e (xa σ, s) (lsi g (8 * rl z + chs g T e (rl z) p (l.map Prod.fst)) n 0 l) p (u + rin g (8 * rl z + chs g T e (rl z) p (l.map Prod.fst))) (n + 1) (nwD d n (rl z) (chs g T e (rl z) p (l.map Prod.fst)) p v (lok g T e (rl z) p (l.map Prod.fst) (chs g T e (rl z) p (l.map Prod.fst)))) ∧
          u + rin g (8 * rl z + chs g T e (rl z) p (l.map Prod.fst)) ≤ 2000)) ∧ FK pK σ (xa σ, s) ∧ xn (xa σ, s) = xn σ + δ ∧ (xn σ ≤ 2061 → xn (xa σ, s) ≤ 2061) ∧
      ∀ f : Nat → Nat, Ct y_K_replace c_K_replace 8 (some .boolean) (rmk rm_K_replace δ) G [.ref (f 22), .int (nI (rl z)), .int (sI v), .ref (f 26)] (WC G (f, σ.2)) (PA G f (some (.int r)) s) := by
  have h16 := hw.r
  obtain ⟨c1, c2, c3⟩ := chs_sp hz.2 hp hl hR
  have hx := LV_h hl hz.2
  have hlt := LV_t hl
  have h8 := hw.a (rl z)
  have hlen : l.length + 1 ≤ 2061 := by
    have ht := Gd_tks _ hl p hp hR
    have hr := tr_len (l.map Prod.fst)
    rw [List.length_map] at hr
    simp only [tks] at ht
    split at ht <;> omega
  have hff := fun f : Nat → Nat => k_firstFitting G (σ := (f, σ.2)) hw hg he hC hx hlt hp hm (by omega) hK hPl (rvs_top (σ := (f, σ.2)) l (rvs_c (σ := σ) (Nat.le_refl _) l (fun _ _ => rfl) hrv)) c1 c2 c3
  generalize hc : chs g T e (rl z) p (l.map Prod.fst) = c at c1 c2 c3 hff ⊢
  have hrow : 8 * rl z + c < 128 := by omega
  have hri := fun f : Nat → Nat => k_rulesIn G (σ := (f, σ.2)) hw hg hrow
  have htr := tr_len (rsy g (8 * rl z + c) 0)
  rw [rsy_len] at htr
  have hll := hw.l (8 * rl z + c)
  have hrin : rin g (8 * rl z + c) = rls (rsy g (8 * rl z + c) 0) := rfl
  have hown : own g (8 * rl z + c) = tks (rsy g (8 * rl z + c) 0) := rfl
  by_cases c44 : 2000 < u + rin g (8 * rl z + c)
  · refine ⟨0, 0, (wi σ 22 2 (xi σ 22 2 + nI (rin g (8 * rl z + c)))).2, .inl ⟨rfl, c44⟩, (FK.refl pK σ).i (.inl rfl) _ _, rfl, fun h => h, fun f => ?_⟩
    refine Ct.of (by decide +kernel) (Nat.le_of_ble_eq_true rfl) (fun K X => ?_)
    refine sg_K_replace_0_fr (cc := 0) (ss := 0) X (f, σ.2) _ _ (nI c) (nI (rin g (8 * rl z + c))) (Nat.zero_le _) (Nat.zero_le _) (hff f) (by rw [n8]; exact hri f) ?_ ⟨rfl, f, fun _ _ => rfl, rfl⟩
    show ¬ xi σ 22 2 + _ ≤ 2000
    rw [hD, n_add, show (2000 : Int32) = nI 2000 from rfl, n_le (by omega) (by omega)]; omega
  · have hn : n ≤ 1999 := by omega
    have hGd := (Gd_row0 h2 hx c1 hlt hp).mp c2
    have hLV := rsy_LV (k := 0) h2 hx c1 hlt
    have htk := Gd_tks _ hLV p hp hGd
    rw [tks_app] at htk
    have hlen2 : gL g (8 * rl z + c) + l.length < 2061 := by
      have hr := tr_len (l.map Prod.fst)
      rw [List.length_map] at hr
      omega
    -- the state after add
    generalize hs1 : (wi (wi (wi (wi (wi σ 22 2 (nI (u + rin g (8 * rl z + c)))) 27 (7 * n + 4) (sI v)) 27 (7 * n + 5) (nI (rin g (8 * rl z + c)))) 27 (7 * n + 3) (nI (own g (8 * rl z + c)))) 26 0 (nI (n + 1))).2 = s1
    have e1 : (xa σ, s1) = wi (wi (wi (wi (wi σ 22 2 (nI (u + rin g (8 * rl z + c)))) 27 (7 * n + 4) (sI v)) 27 (7 * n + 5) (nI (rin g (8 * rl z + c)))) 27 (7 * n + 3) (nI (own g (8 * rl z + c)))) 26 0 (nI (n + 1)) := by rw [← hs1]; rfl
    have f1 : FK pK σ (xa σ, s1) := by
      rw [e1]; exact (((((FK.refl pK σ).i (.inl rfl) _ _).i (.inr (.inr rfl)) _ _).i (.inr (.inr rfl)) _ _).i (.inr (.inr rfl)) _ _).i (.inr (.inl rfl)) _ _
    have k1 : xi (xa σ, s1) 22 0 = nI l.length := by rw [e1]; exact hK
    have k2 : xi (xa σ, s1) 22 1 = nI p := by rw [e1]; exact hPl
    have kx : xn (xa σ, s1) = xn σ := by rw [e1]; rfl
    have kp : xp (xa σ, s1) = xp σ := by rw [e1]; rfl
    have hrv1 : rvs g T e p (xa σ, s1) l := rvs_c (Nat.le_refl _) l (fun j _ => by rw [kp]) hrv
    have hst1 : stk (xa σ, s1) l := stk_c l (fun j _ => by rw [kp]) hs
    have hC1 : okC g T e (xa σ, s1) := hC.fk f1 (by decide)
    have hg1 : GC g (xa σ, s1) := hg.fk f1 (by decide)
    have hlk := fun f : Nat → Nat => k_look G (σ := (f, s1)) hw hg1 he hC1 hx hlt hp (m := l.length) (by show l.length < xn (xa σ, s1); rw [kx]; exact hm) (by omega) k1 k2 (rvs_top (σ := (f, s1)) l (rvs_c (σ := (xa σ, s1)) (Nat.le_refl _) l (fun _ _ => rfl) hrv1)) c1
    have hlkb : lok g T e (rl z) p (l.map Prod.fst) c ≤ e + 1 := mx_le _ _
    generalize hlkd : lok g T e (rl z) p (l.map Prod.fst) c = lk at hlk hlkb ⊢
    generalize hs2 : (wi (wi (wi (wi (xa σ, s1) 27 (7 * n + 0) (nI (rl z))) 27 (7 * n + 1) (nI c)) 27 (7 * n + 2) (nI p)) 27 (7 * n + 6) (nI lk)).2 = s2
    have e2 : (xa σ, s2) = wi (wi (wi (wi (xa σ, s1) 27 (7 * n + 0) (nI (rl z))) 27 (7 * n + 1) (nI c)) 27 (7 * n + 2) (nI p)) 27 (7 * n + 6) (nI lk) := by rw [← hs2]; rfl
    have f2 : FK pK σ (xa σ, s2) := by
      rw [e2]; exact (((f1.i (.inr (.inr rfl)) _ _).i (.inr (.inr rfl)) _ _).i (.inr (.inr rfl)) _ _).i (.inr (.inr rfl)) _ _
    have k22 : xi (xa σ, s2) 22 = xi (xa σ, s1) 22 := by rw [e2]; rfl
    have kx2 : xn (xa σ, s2) = xn σ := by rw [e2]; exact kx
    have kp2 : xp (xa σ, s2) = xp σ := by rw [e2]; exact kp
    have k27 : xi (xa σ, s2) 27 = upd (upd (upd (upd (upd (upd (upd (xi σ 27) (7 * n + 4) (sI v)) (7 * n + 5) (nI (rin g (8 * rl z + c)))) (7 * n + 3) (nI (own g (8 * rl z + c)))) (7 * n + 0) (nI (rl z))) (7 * n + 1) (nI c)) (7 * n + 2) (nI p)) (7 * n + 6) (nI lk) := by rw [e2, e1]; rfl
    have k26 : xi (xa σ, s2) 26 0 = nI (n + 1) := by rw [e2, e1]; rfl
    have k222 : xi (xa σ, s2) 22 2 = nI (u + rin g (8 * rl z + c)) := by rw [k22, e1]; rfl
    obtain ⟨δ, s3, ⟨a1, a2, a3, a4, a5, a6, a7, a8⟩, t3⟩ := k_layRow G (σ := (xa σ, s2)) (nd := n) hw (hg.fk f2 (by decide)) h2 hT he (hC.fk f2 (by decide)) (by rw [f2.1 11 (by decide)]; exact hI) hp hx c1 (l := l) hlt (by rw [kx2]; exact hm) hlen2 (by rw [k22]; exact k1) (by rw [k22]; exact k2) (stk_c l (fun j _ => by rw [kp2]) hs) (rvs_c (Nat.le_refl _) l (fun j _ => by rw [kp2]) hrv)
    have a5 : FK (inR 22 22) (xa σ, s2) (xa σ, s3) := a5
    have a6 : xn (xa σ, s3) = xn (xa σ, s2) + δ := a6
    have a4 : ∀ j, j ≠ 0 → xi (xa σ, s3) 22 j = xi (xa σ, s2) 22 j := a4
    have f3 : FK pK σ (xa σ, s3) := f2.trans (a5.mono (fun k hk => .inl (by have := hk.1; have := hk.2; omega)))
    refine ⟨1, δ, s3, .inr ⟨rfl, ⟨a1, a2, a3, ?_, ?_, ?_, ?_, a7⟩, by omega⟩, f3, by rw [a6, kx2], fun hx => a8 (by rw [kx2]; exact hx), fun f => ?_⟩
    · rw [a4 1 (by decide), k22]; exact k2
    · rw [a4 2 (by decide)]; exact k222
    · rw [a5.1 26 (by decide)]; exact k26
    · obtain ⟨u0, u1, u2, u3, u4, u5, u6, u7⟩ := upd7 (xi σ 27) n (sI v) (nI (rin g (8 * rl z + c))) (nI (own g (8 * rl z + c))) (nI (rl z)) (nI c) (nI p) (nI lk)
      have hnr : nrow (nwD d n (rl z) c p v lk) n = 8 * rl z + c := by unfold nrow; rw [nwD_0, nwD_1]; omega
      intro w hw2
      rw [a5.1 27 (by decide), k27]
      by_cases ew : w = n
      · subst ew
        rw [hnr, nwD_0, nwD_1, nwD_2, nwD_4, nwD_6, u1, u2, u3, u4, u5, u6, u7]
        exact ⟨rfl, rfl, rfl, rfl, rfl, rfl, rfl⟩
      · have := hTF w (by omega)
        rw [u0 _ (by omega), u0 _ (by omega), u0 _ (by omega), u0 _ (by omega), u0 _ (by omega), u0 _ (by omega), u0 _ (by omega)]
        have hnr2 : nrow (nwD d n (rl z) c p v lk) w = nrow d w := by unfold nrow; rw [nwD_ne ew (by omega), nwD_ne ew (by omega)]
        rw [hnr2, nwD_ne ew (by omega), nwD_ne ew (by omega), nwD_ne ew (by omega), nwD_ne ew (by omega), nwD_ne ew (by omega)]
        exact this
    · refine Ct.of (by decide +kernel) (Nat.le_of_ble_eq_true rfl) (fun K X => ?_)
      have eD : xi (f, σ.2) 22 2 = nI u := hD
      have e3 : xi (f, σ.2) 3 (8 * rl z + c) = nI (gL g (8 * rl z + c)) := hg.2.2.1 _ hrow
      have tadd := ct26_T_add_ G (wi (f, σ.2) 22 2 (nI (u + rin g (8 * rl z + c)))) (sI v) (nI (rin g (8 * rl z + c))) (nI (own g (8 * rl z + c))) (7 * n + 4) (7 * n + 5) (7 * n + 3) (by show xi σ 26 0 * 7 + 4 = _; rw [hN]; exact m7 n 4) (by omega) (by show xi σ 26 0 * 7 + 5 = _; rw [hN]; exact m7 n 5) (by omega) (by show xi σ 26 0 * 7 + 3 = _; rw [hN]; exact m7 n 3) (by omega)
      have eN : xi (wi (f, σ.2) 22 2 (nI (u + rin g (8 * rl z + c)))) 26 0 = nI n := hN
      rw [eN, n_s, n_p (by omega), Nat.add_sub_cancel] at tadd
      have es1 : wi (wi (wi (wi (wi (f, σ.2) 22 2 (nI (u + rin g (8 * rl z + c)))) 27 (7 * n + 4) (sI v)) 27 (7 * n + 5) (nI (rin g (8 * rl z + c)))) 27 (7 * n + 3) (nI (own g (8 * rl z + c)))) 26 0 (nI (n + 1)) = (f, s1) := by rw [← hs1]; rfl
      rw [es1] at tadd
      have tch := ct26_T_choose_ G (f, s1) (nI n) (nI (rl z)) (nI c) (nI p) (nI lk) (7 * n + 0) (7 * n + 1) (7 * n + 2) (7 * n + 6) (m7 n 0) (by omega) (m7 n 1) (by omega) (m7 n 2) (by omega) (m7 n 6) (by omega)
      have es2 : wi (wi (wi (wi (f, s1) 27 (7 * n + 0) (nI (rl z))) 27 (7 * n + 1) (nI c)) 27 (7 * n + 2) (nI p)) 27 (7 * n + 6) (nI lk) = (f, s2) := by rw [← hs2]; rfl
      rw [es2] at tch
      have k2' : xi (f, s1) 22 1 = nI p := k2
      refine sg_K_replace_0_tr (cc := 0) (ss := 0) X (f, σ.2) _ _ (nI c) (nI (rin g (8 * rl z + c))) (8 * rl z + c) (nI n) s1 (nI lk) s2 δ s3 (Nat.zero_le _) (Nat.zero_le _) (hff f) (by rw [n8]; exact hri f) ?_ (n8 _ _) hrow ?_ (hlk f) ?_ ?_ (by omega) (by omega) (fun f' hf' => ⟨rfl, f', hf', rfl⟩)
      · rw [eD, n_add, show (2000 : Int32) = nI 2000 from rfl, n_le (by omega) (by omega)]; omega
      · rw [eD, n_add, e3, n_sub (by omega), show gL g (8 * rl z + c) - rin g (8 * rl z + c) = own g (8 * rl z + c) from by omega]; exact tadd
      · rw [k2']; exact tch
      · rw [n8]; exact t3 f
