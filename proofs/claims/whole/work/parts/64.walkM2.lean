/-! the reference's makeNode -/
abbrev pMN (k : Nat) : Prop := k = 17 ∨ k = 18 ∨ k = 19 ∨ k = 20
abbrev jMN (i : Nat) : Prop := i = 5 ∨ i = 6 ∨ i = 7
def MD (d : Nat → Nat → Int) (n : Nat) (τ : St) : Prop := ∀ u, u < n → ∀ j, j < 7 → xi τ 17 (7 * u + j) = sI (d u j)
theorem upd7m (F : Nat → Int32) (n : Nat) (a0 a1 a2 a3 a4 a5 a6 : Int32) :
    (∀ i, i < 7 * n → upd (upd (upd (upd (upd (upd (upd F (7 * n) a0) (7 * n + 1) a1) (7 * n + 2) a2) (7 * n + 3) a3) (7 * n + 4) a4) (7 * n + 5) a5) (7 * n + 6) a6 i = F i) ∧
    upd (upd (upd (upd (upd (upd (upd F (7 * n) a0) (7 * n + 1) a1) (7 * n + 2) a2) (7 * n + 3) a3) (7 * n + 4) a4) (7 * n + 5) a5) (7 * n + 6) a6 (7 * n) = a0 ∧
    upd (upd (upd (upd (upd (upd (upd F (7 * n) a0) (7 * n + 1) a1) (7 * n + 2) a2) (7 * n + 3) a3) (7 * n + 4) a4) (7 * n + 5) a5) (7 * n + 6) a6 (7 * n + 1) = a1 ∧
    upd (upd (upd (upd (upd (upd (upd F (7 * n) a0) (7 * n + 1) a1) (7 * n + 2) a2) (7 * n + 3) a3) (7 * n + 4) a4) (7 * n + 5) a5) (7 * n + 6) a6 (7 * n + 2) = a2 ∧
    upd (upd (upd (upd (upd (upd (upd F (7 * n) a0) (7 * n + 1) a1) (7 * n + 2) a2) (7 * n + 3) a3) (7 * n + 4) a4) (7 * n + 5) a5) (7 * n + 6) a6 (7 * n + 3) = a3 ∧
    upd (upd (upd (upd (upd (upd (upd F (7 * n) a0) (7 * n + 1) a1) (7 * n + 2) a2) (7 * n + 3) a3) (7 * n + 4) a4) (7 * n + 5) a5) (7 * n + 6) a6 (7 * n + 4) = a4 ∧
    upd (upd (upd (upd (upd (upd (upd F (7 * n) a0) (7 * n + 1) a1) (7 * n + 2) a2) (7 * n + 3) a3) (7 * n + 4) a4) (7 * n + 5) a5) (7 * n + 6) a6 (7 * n + 5) = a5 ∧
    upd (upd (upd (upd (upd (upd (upd F (7 * n) a0) (7 * n + 1) a1) (7 * n + 2) a2) (7 * n + 3) a3) (7 * n + 4) a4) (7 * n + 5) a5) (7 * n + 6) a6 (7 * n + 6) = a6 := by
  refine ⟨fun i hi => ?_, ?_, ?_, ?_, ?_, ?_, ?_, ?_⟩
  · rw [upd_ne _ _ (by omega), upd_ne _ _ (by omega), upd_ne _ _ (by omega), upd_ne _ _ (by omega), upd_ne _ _ (by omega), upd_ne _ _ (by omega), upd_ne _ _ (by omega)]
  · rw [upd_ne _ _ (by omega), upd_ne _ _ (by omega), upd_ne _ _ (by omega), upd_ne _ _ (by omega), upd_ne _ _ (by omega), upd_ne _ _ (by omega), upd_at]
  · rw [upd_ne _ _ (by omega), upd_ne _ _ (by omega), upd_ne _ _ (by omega), upd_ne _ _ (by omega), upd_ne _ _ (by omega), upd_at]
  · rw [upd_ne _ _ (by omega), upd_ne _ _ (by omega), upd_ne _ _ (by omega), upd_ne _ _ (by omega), upd_at]
  · rw [upd_ne _ _ (by omega), upd_ne _ _ (by omega), upd_ne _ _ (by omega), upd_at]
  · rw [upd_ne _ _ (by omega), upd_ne _ _ (by omega), upd_at]
  · rw [upd_ne _ _ (by omega), upd_at]
  · rw [upd_at]
/-- pushing the symbols of the row -/
theorem m_pushRow (G : GG) {g : Gr} {T : Nat → Int} {e : Nat} {τ : St} (hw : WF g) (hg : GM g τ) (h2 : NoF (F2 g) (gR g)) (hT : WT T e) (hI : IM T e τ) (hok : ∀ y, y < gR g → ∀ q, q ≤ e → okM g T e τ y q) {x c nd : Nat} {l : Itm} (hx : x < gR g) (hc : c < gA g x) (hl : LV g (sms l)) (hne : 0 < l.length) (hpil : pil g T e τ l) (hH : xi τ 0 6 = nI l.length) (hlen : l.length + 8 < 20000) (x2 x3 x8 x9 x10 : Int32) (x5 : Int64) :
    ∃ s : Sq, (pil g T e (xa τ, s) (itm nd (rsy g (8 * x + c) 0) ++ l) ∧ xi (xa τ, s) 0 6 = nI (itm nd (rsy g (8 * x + c) 0) ++ l).length ∧ Fm (fun k => k = 18 ∨ k = 19 ∨ k = 20) (fun i => i = 6) τ (xa τ, s)) ∧
      ∀ q, (fun q : KP => Bd q.1 G q.2.1 "FirstTreesModel" c_M_makeNode 13 none rm_M_makeNode) q → Lb q.1 G q.2.1 (Qe q.1 G q.2.1 q.2.2 rm_M_makeNode) 13 282 [(0, .ref (xa τ 0)), (1, .int (nI x)), (2, .int x2), (3, .int x3), (4, .int (nI nd)), (5, .long x5), (7, .int (nI c)), (8, .int x8), (9, .int x9), (10, .int x10), (11, .int (dI 0))] [] (WM G (xa τ, s)) 0 0 →
        Lb q.1 G q.2.1 (Qe q.1 G q.2.1 q.2.2 rm_M_makeNode) 13 282 [(0, .ref (xa τ 0)), (1, .int (nI x)), (2, .int x2), (3, .int x3), (4, .int (nI nd)), (5, .long x5), (7, .int (nI c)), (8, .int x8), (9, .int x9), (10, .int x10), (11, .int (dI (gL g (8 * x + c))))] [] (WM G τ) 0 0 := by
  have h60 := hT.1
  have h16 := hw.r
  have h8 := hw.a x
  have hll := hw.l (8 * x + c)
  have hrow : 8 * x + c < 128 := by omega
  refine iterD (α := Sq) (C := fun q : KP => Bd q.1 G q.2.1 "FirstTreesModel" c_M_makeNode 13 none rm_M_makeNode) (fun i s => pil g T e (xa τ, s) (itm nd (rsy g (8 * x + c) i) ++ l) ∧ xi (xa τ, s) 0 6 = nI (itm nd (rsy g (8 * x + c) i) ++ l).length ∧ Fm (fun k => k = 18 ∨ k = 19 ∨ k = 20) (fun i => i = 6) τ (xa τ, s))
    (fun q i s => Lb q.1 G q.2.1 (Qe q.1 G q.2.1 q.2.2 rm_M_makeNode) 13 282 [(0, .ref (xa τ 0)), (1, .int (nI x)), (2, .int x2), (3, .int x3), (4, .int (nI nd)), (5, .long x5), (7, .int (nI c)), (8, .int x8), (9, .int x9), (10, .int x10), (11, .int (dI i))] [] (WM G (xa τ, s)) 0 0) (gL g (8 * x + c)) ?_ (gL g (8 * x + c)) τ.2 (Nat.le_refl _) ⟨by rw [rsy_end (Nat.le_refl _)]; exact hpil, by rw [rsy_end (Nat.le_refl _)]; exact hH, Fm.refl _ _ _⟩
  intro i s hi ⟨a1, a2, a3⟩
  have hy := hw.y (8 * x + c) i
  have hg' : GM g (xa τ, s) := hg.fm a3 (by decide) (by decide)
  have hI' : IM T e (xa τ, s) := hI.fm a3 (by decide) (by decide)
  have ek : xi (xa τ, s) 3 (8 * (8 * x + c) + i) = sI (gY g (8 * x + c) i) := hg'.2.2.2 _ (by omega)
  have hL : (itm nd (rsy g (8 * x + c) (i + 1)) ++ l).length = (gL g (8 * x + c) - (i + 1)) + l.length := by rw [List.length_append, itm_len]; congr 1; exact sfx_len _ _ _ _
  have hlow : ∀ j, ∀ z, z ∈ rsy g (8 * x + c) j → -100 < z := fun j z hz => by have := rsy_low hw z hz; omega
  have hlst : sms (itm nd (rsy g (8 * x + c) (i + 1)) ++ l) = rsy g (8 * x + c) (i + 1) ++ sms l := sms_itm _ (hlow _)
  have hlv : LV g (gY g (8 * x + c) i :: sms (itm nd (rsy g (8 * x + c) (i + 1)) ++ l)) := by
    rw [hlst]
    have := rsy_LV (k := i) h2 hx hc hl
    rw [rsy_s hi, List.cons_append] at this; exact this
  have hLL : itm nd (rsy g (8 * x + c) i) ++ l = (gY g (8 * x + c) i, (nd : Int)) :: (itm nd (rsy g (8 * x + c) (i + 1)) ++ l) := by rw [rsy_s hi]; rfl
  generalize hLd : itm nd (rsy g (8 * x + c) (i + 1)) ++ l = L1 at *
  have htop : ∀ q, tb (xl (xa τ, s) 20 (L1.length - 1)) q = true ↔ (q ≤ e ∧ RR g T e (sms L1) q = e + 1) := by
    cases L1 with
    | nil => exact absurd hL (by show ¬ 0 = _; omega)
    | cons b L2 => obtain ⟨b1, b2⟩ := b; exact a1.2.2.1
  obtain ⟨r, hr, tb'⟩ := m_before G (τ := (xa τ, s)) hT hI' (fun y hy q hq => (hok y hy q hq).fm a3 (by decide)) (z := gY g (8 * x + c) i) (l := sms L1) (w := xl (xa τ, s) 20 (L1.length - 1)) hy hlv htop
  have tp := ct_M_push_ G (xa τ, s) (sI (gY g (8 * x + c) i)) (nI nd) r L1.length a2 (by omega)
  rw [a2, n_s] at tp
  refine ⟨(wi (wl (wi (wi (xa τ, s) 18 L1.length (sI (gY g (8 * x + c) i))) 19 L1.length (nI nd)) 20 L1.length r) 0 6 (nI (L1.length + 1))).2, ⟨?_, ?_, ?_⟩, fun q X kk => ?_⟩
  · rw [hLL]
    refine ⟨upd_at _ _ _, upd_at _ _ _, ?_, pil_c (τ := (xa τ, s)) _ (fun j hj => ⟨upd_ne _ _ (by omega), upd_ne _ _ (by omega), updL_ne _ _ (by omega)⟩) a1⟩
    intro q
    show tb (vp_updL (xl (xa τ, s) 20) L1.length r L1.length) q = true ↔ _
    rw [updL_at, hr, sms_sym (by omega)]
  · rw [hLL]; rfl
  · exact ((((a3.i (k := 18) (.inl rfl) (by decide) _ _).i (k := 19) (.inr (.inl rfl)) (by decide) _ _).l (k := 20) (.inr (.inr rfl)) (by decide) _ _).z (i := 6) rfl _)
  · show Lb _ _ _ _ _ _ [(0, .ref (xa τ 0)), (1, .int (nI x)), (2, .int x2), (3, .int x3), (4, .int (nI nd)), (5, .long x5), (7, .int (nI c)), (8, .int x8), (9, .int x9), (10, .int x10), (11, .int (dI (i + 1)))] _ _ _ _
    rw [dI_s]
    refine sg_M_makeNode_282_f282 X (xa τ, s) _ _ _ _ _ _ _ _ _ _ (8 * (8 * x + c) + i) (L1.length - 1) r _ (dI_nn (by omega)) (m64 x c i) (by omega) (by rw [a2, n_p (by omega)]) (by omega) (by rw [ek]; exact tb') (by rw [ek]; exact tp) ?_
    rw [dI_m]; exact kk
theorem m_makeNode (G : GG) {g : Gr} {T : Nat → Int} {e : Nat} {τ : St} (hw : WF g) (hg : GM g τ) (h2 : NoF (F2 g) (gR g)) (hT : WT T e) (hI : IM T e τ) (hok : ∀ y, y < gR g → ∀ q, q ≤ e → okM g T e τ y q) {z v : Int} {it : Itm} {p n : Nat} {d : Nat → Nat → Int} (hz : -16 ≤ z ∧ z < 0) (hv1 : -1 ≤ v) (hv2 : v < n) (hp : p ≤ e) (hl : LV g (z :: sms it)) (hR : RR g T e (z :: sms it) p = e + 1) (hib : Itb it) (hmk : ∀ y, y ∈ it → -2147483000 ≤ y.1)
    (hpil : pil g T e τ it) (hH : xi τ 0 6 = nI it.length) (hlen : it.length + 9 < 20000) (hN : xi τ 0 5 = nI n) (hn : n < 2000) (hD : MD d n τ) :
    ∃ s : Sq, (pil g T e (xa τ, s) (itm n (rsy g (8 * rl z + chs g T e (rl z) p (sms it)) 0) ++ (-100 - (n : Int), (n : Int)) :: it) ∧ xi (xa τ, s) 0 6 = nI (itm n (rsy g (8 * rl z + chs g T e (rl z) p (sms it)) 0) ++ (-100 - (n : Int), (n : Int)) :: it).length ∧ xi (xa τ, s) 0 5 = nI (n + 1) ∧
        MD (nwD d n (rl z) (chs g T e (rl z) p (sms it)) p v (lok g T e (rl z) p (sms it) (chs g T e (rl z) p (sms it)))) (n + 1) (xa τ, s) ∧ (∃ u, u ≤ 60 ∧ xi (xa τ, s) 0 7 = nI u) ∧ Fm pMN jMN τ (xa τ, s)) ∧
      Ct y_M_makeNode c_M_makeNode 13 none rm_M_makeNode G [.ref (xa τ 0), .int (nI (rl z)), .int (sI v), .int (nI p)] (WM G τ) (eqp none (WM G (xa τ, s))) := by
  have h60 := hT.1
  have h16 := hw.r
  obtain ⟨c1, c2, c3⟩ := chs_sp hz.2 hp hl hR
  have hx := LV_h hl hz.2
  have hlt := LV_t hl
  generalize rl z = x at *
  have h8 := hw.a x
  generalize chs g T e x p (sms it) = c at *
  have hrow : 8 * x + c < 128 := by omega
  -- the beginning
  obtain ⟨w, hwb, k0⟩ : ∃ w : Int64, (∀ q, tb w q = true ↔ (q ≤ e ∧ RR g T e (sms it) q = e + 1)) ∧ ∀ q, (fun q : KP => Bd q.1 G q.2.1 "FirstTreesModel" c_M_makeNode 13 none rm_M_makeNode) q → Lb q.1 G q.2.1 (Qe q.1 G q.2.1 q.2.2 rm_M_makeNode) 13 53 [(0, .ref (xa τ 0)), (1, .int (nI x)), (2, .int (sI v)), (3, .int (nI p)), (4, .int (nI n)), (5, .long w), (7, .int (nI 0))] [] (WM G (wi (wi τ 0 5 (nI (n + 1))) 0 7 (nI p))) 0 0 →
      Lb q.1 G q.2.1 (Qe q.1 G q.2.1 q.2.2 rm_M_makeNode) 13 0 [(0, .ref (xa τ 0)), (1, .int (nI x)), (2, .int (sI v)), (3, .int (nI p))] [] (WM G τ) 0 0 := by
    cases it with
    | nil =>
      refine ⟨shlL 1 (nI e), fun q => ?_, fun q X kk => ?_⟩
      · rw [tb_shlL (by omega), decide_eq_true_eq]
        constructor
        · intro h; subst h; exact ⟨Nat.le_refl _, (Gd_nil (Nat.le_refl _)).mpr rfl⟩
        · rintro ⟨q1, q2⟩; exact (Gd_nil q1).mp q2
      · refine sg_M_makeNode_0_t53 X τ _ _ _ (by rw [hH]; decide) ?_
        rw [hI.1, hN, n_s]; exact kk
    | cons b l0 =>
      obtain ⟨b1, b2⟩ := b
      refine ⟨xl τ 20 l0.length, hpil.2.2.1, fun q X kk => ?_⟩
      have hlen' : l0.length + 1 + 9 < 20000 := hlen
      have hH' : xi τ 0 6 = nI (l0.length + 1) := hH
      refine sg_M_makeNode_0_f53 X τ _ _ _ l0.length (by rw [hH', show (0 : Int32) = nI 0 from rfl, n_le (by omega) (by omega)]; omega) (by rw [hH', n_p (by omega)]; rfl) (by omega) ?_
      rw [hN, n_s]; exact kk
  have f1 : Fm noP jMN τ (wi (wi τ 0 5 (nI (n + 1))) 0 7 (nI p)) := ((Fm.refl noP jMN τ).z (i := 5) (.inl rfl) _).z (i := 7) (.inr (.inr rfl)) _
  have tr7 : ∀ {σ σ' : St}, Fm noP jMN τ σ → Fm noP j7 σ σ' → Fm noP jMN τ σ' := fun h h' => h.trans (h'.mono (fun k hk => hk) (fun k hk => .inr (.inr hk)))
  have GMx : ∀ {σ : St}, Fm noP jMN τ σ → GM g σ := fun h => hg.fm h (by decide) ⟨fun q => q, fun q => q, fun q => q⟩
  have IMx : ∀ {σ : St}, Fm noP jMN τ σ → IM T e σ := fun h => hI.fm h (by decide) (fun q => q)
  have OKx : ∀ {σ : St}, Fm noP jMN τ σ → ∀ y, y < gR g → ∀ q, q ≤ e → okM g T e σ y q := fun h y hy q hq => (hok y hy q hq).fm h ⟨fun q => q, fun q => q⟩
  have along : ∀ (s : Sq) (u i : Nat), Fm noP jMN τ (xa τ, s) → u ≤ 60 → xi (xa τ, s) 0 7 = nI u → i < gA g x → ∃ (s' : Sq) (r : Int64), (Fm noP j7 (xa τ, s) (xa τ, s') ∧ (∃ u, u ≤ 60 ∧ xi (xa τ, s') 0 7 = nI u) ∧ (∀ q, tb r q = true ↔ Run g T e (8 * x + i) (gL g (8 * x + i)) p q)) ∧ Ct y_M_alongAlternative c_M_alongAlternative 8 (some .long) rm_M_alongAlternative G [.ref (xa τ 0), .long (shlL 1 (nI p)), .int (nI x), .int (nI i)] (WM G (xa τ, s)) (eqp (some (.long r)) (WM G (xa τ, s'))) := by
    intro s u i hF hu1 hu2 hi
    obtain ⟨s', r, v', ⟨q1, q2, q3, q4, q5⟩, t⟩ := m_along G (τ := (xa τ, s)) (x := x) (a := i) (p := p) (u := u) hw (GMx hF) hT (IMx hF) (by omega) (by omega) hp hu2 hu1
      (fun k hk m hr hs => ⟨rl_lt h2 hx hi hk hs, OKx hF _ (rl_lt h2 hx hi hk hs) m (Run_bd hp hr).2.1⟩)
    exact ⟨s', r, ⟨q1, ⟨v', q3, q2⟩, q5⟩, t⟩
  have hand : ∀ (r : Int64) (i : Nat), (∀ q, tb r q = true ↔ Run g T e (8 * x + i) (gL g (8 * x + i)) p q) → (r &&& w = 0 ↔ ¬ fitA g T e x p (sms it) i) := by
    intro r i hr
    rw [tb_z]
    constructor
    · rintro h ⟨q, q1, q2⟩
      have := h q
      rw [tb_and, (hr q).mpr q1, (hwb q).mpr ⟨(Run_bd hp q1).2.1, q2⟩] at this; cases this
    · intro h q
      rw [← Bool.not_eq_true, tb_and, Bool.and_eq_true, hr, hwb]
      rintro ⟨q1, q2, q3⟩
      exact h ⟨q, q1, q3⟩
  obtain ⟨s1, ⟨a1, a2⟩, k1⟩ := iterL (α := Sq) (C := fun q : KP => Bd q.1 G q.2.1 "FirstTreesModel" c_M_makeNode 13 none rm_M_makeNode) c (fun i s => Fm noP jMN τ (xa τ, s) ∧ xi (xa τ, s) 0 6 = nI it.length ∧ xi (xa τ, s) 0 5 = nI (n + 1) ∧ (∃ u, u ≤ 60 ∧ xi (xa τ, s) 0 7 = nI u))
    (fun q i s => Lb q.1 G q.2.1 (Qe q.1 G q.2.1 q.2.2 rm_M_makeNode) 13 53 [(0, .ref (xa τ 0)), (1, .int (nI x)), (2, .int (sI v)), (3, .int (nI p)), (4, .int (nI n)), (5, .long w), (7, .int (nI i))] [] (WM G (xa τ, s)) 0 0) (by
    intro i s hi ⟨q1, q2, q3, u, q4, q5⟩
    obtain ⟨s', r, ⟨d1, d2, d3⟩, t⟩ := along s u i q1 q4 q5 (by omega)
    refine ⟨s', ⟨tr7 q1 d1, by rw [d1.2.1 6 (by decide)]; exact q2, by rw [d1.2.1 5 (by decide)]; exact q3, d2⟩, fun q X kk => ?_⟩
    refine sg_M_makeNode_53_f53 X (xa τ, s) _ _ _ _ _ _ r s' t ((hand r i d3).mpr (c3 i hi)) ?_
    rw [n_s]; exact kk) 0 (wi (wi τ 0 5 (nI (n + 1))) 0 7 (nI p)).2 (Nat.zero_le _) ⟨f1, hH, rfl, p, by omega, rfl⟩
  obtain ⟨a2, a3, u1, a4, a5⟩ := a2
  obtain ⟨s2, r2, ⟨e1, e2, e3⟩, t2⟩ := along s1 u1 c a1 a4 a5 c1
  have g1 : Fm noP jMN τ (xa τ, s2) := tr7 a1 e1
  -- how far the others look
  obtain ⟨⟨s3, lv⟩, ⟨b1, b2, b3, b4, b5, b6⟩, k3⟩ := iterL (α := Sq × Nat) (C := fun q : KP => Bd q.1 G q.2.1 "FirstTreesModel" c_M_makeNode 13 none rm_M_makeNode) (gA g x) (fun i b => Fm noP jMN τ (xa τ, b.1) ∧ xi (xa τ, b.1) 0 6 = nI it.length ∧ xi (xa τ, b.1) 0 5 = nI (n + 1) ∧ (∃ u, u ≤ 60 ∧ xi (xa τ, b.1) 0 7 = nI u) ∧ isMx (fun u => u = 0 ∨ ∃ a, a < i ∧ a ≠ c ∧ u = rch g T e x p (sms it) a - p + 1) b.2 ∧ b.2 ≤ e + 2)
    (fun q i b => Lb q.1 G q.2.1 (Qe q.1 G q.2.1 q.2.2 rm_M_makeNode) 13 83 [(0, .ref (xa τ 0)), (1, .int (nI x)), (2, .int (sI v)), (3, .int (nI p)), (4, .int (nI n)), (5, .long w), (7, .int (nI c)), (8, .int (nI b.2)), (9, .int (nI i))] [] (WM G (xa τ, b.1)) 0 0) (by
    intro i ⟨s, lv⟩ hi ⟨q1, q2, q3, q4, q5, q6⟩
    have q1 : Fm noP jMN τ (xa τ, s) := q1
    have q5 : isMx (fun u => u = 0 ∨ ∃ a, a < i ∧ a ≠ c ∧ u = rch g T e x p (sms it) a - p + 1) lv := q5
    have q6 : lv ≤ e + 2 := q6
    have c91 : ¬ xi (xa τ, s) 1 x ≤ nI i := by rw [(GMx q1).2.1 x (by omega), n_le (by omega) (by omega)]; omega
    by_cases c98 : i = c
    · refine ⟨(s, lv), ⟨q1, q2, q3, q4, q5.congr (fun u => ?_), q6⟩, fun q X kk => ?_⟩
      · constructor
        · rintro (h | ⟨a, h1, h2, h3⟩)
          · exact .inl h
          · exact .inr ⟨a, by omega, h2, h3⟩
        · rintro (h | ⟨a, h1, h2, h3⟩)
          · exact .inl h
          · exact .inr ⟨a, by omega, h2, h3⟩
      · refine sg_M_makeNode_83_fft83 X (xa τ, s) _ _ _ _ _ _ _ _ x rfl (by omega) c91 (by rw [c98]) (by rw [show (0 : Int32) = nI 0 from rfl, n_le (by omega) (by omega)]; omega) ?_
        rw [n_s]; exact kk
    · have hpl : pil g T e (xa τ, s) it := pil_c (τ := τ) it (fun j _ => ⟨by rw [q1.ei 18 (by decide)], by rw [q1.ei 19 (by decide)], by rw [q1.el 20 (by decide)]⟩) hpil
      obtain ⟨s', ⟨d1, d2⟩, t⟩ := m_reachOf G (τ := (xa τ, s)) (x := x) (a := i) (p := p) (it := it) hw (GMx q1) h2 hT (IMx q1) (OKx q1) hx hi hp hlt hib hmk hpl q2 (by omega)
      have d1 : Fm noP j7 (xa τ, s) (xa τ, s') := d1
      have hb := rch_bd (g := g) (T := T) (x := x) (a := i) hlt hp
      have c98' : ¬ nI i = nI c := by rw [n_eq (by omega) (by omega)]; exact c98
      by_cases dd : rch g T e x p (sms it) i - p + 1 ≤ lv
      · refine ⟨(s', lv), ⟨tr7 q1 d1, (d1.2.1 6 (by decide)).trans q2, (d1.2.1 5 (by decide)).trans q3, d2, ⟨?_, ?_⟩, q6⟩, fun q X kk => ?_⟩
        · rcases q5.1 with h | ⟨a, h1, h2, h3⟩
          · exact .inl h
          · exact .inr ⟨a, by omega, h2, h3⟩
        · rintro u (h | ⟨a, h1, h2, h3⟩)
          · exact q5.2 u (.inl h)
          · by_cases ea : a = i
            · subst ea; show u ≤ lv; omega
            · exact q5.2 u (.inr ⟨a, by omega, h2, h3⟩)
        · refine sg_M_makeNode_83_ftt83 X (xa τ, s) _ _ _ _ _ _ _ _ x _ s' rfl (by omega) c91 c98' t (by rw [n_s, n_le (by omega) (by omega)]; exact dd) ?_
          rw [n_s]; exact kk
      · refine ⟨(s', rch g T e x p (sms it) i - p + 1), ⟨tr7 q1 d1, (d1.2.1 6 (by decide)).trans q2, (d1.2.1 5 (by decide)).trans q3, d2, ⟨.inr ⟨i, by omega, c98, rfl⟩, ?_⟩, by show rch g T e x p (sms it) i - p + 1 ≤ e + 2; omega⟩, fun q X kk => ?_⟩
        · rintro u (h | ⟨a, h1, h2, h3⟩)
          · have := q5.2 u (.inl h); show u ≤ rch g T e x p (sms it) i - p + 1; omega
          · show u ≤ rch g T e x p (sms it) i - p + 1
            by_cases ea : a = i
            · subst ea; omega
            · have := q5.2 u (.inr ⟨a, by omega, h2, h3⟩); omega
        · refine sg_M_makeNode_83_ftf83 X (xa τ, s) _ _ _ _ _ _ _ _ x _ s' rfl (by omega) c91 c98' t (by rw [n_s, n_le (by omega) (by omega)]; exact dd) ?_
          rw [n_s, n_s]; exact kk) 0 (s2, 0) (Nat.zero_le _) ⟨g1, (e1.2.1 6 (by decide)).trans a2, (e1.2.1 5 (by decide)).trans a3, e2, ⟨.inl rfl, by
      rintro u (h | ⟨a, h1, _⟩)
      · exact Nat.le_of_eq h
      · exact absurd h1 (Nat.not_lt_zero _)⟩, by show 0 ≤ e + 2; omega⟩
  have b1 : Fm noP jMN τ (xa τ, s3) := b1
  have b2 : xi (xa τ, s3) 0 6 = nI it.length := b2
  have b3 : xi (xa τ, s3) 0 5 = nI (n + 1) := b3
  have b5 : isMx (fun u => u = 0 ∨ ∃ a, a < gA g x ∧ a ≠ c ∧ u = rch g T e x p (sms it) a - p + 1) lv := b5
  have b6 : lv ≤ e + 2 := b6
  have hlk : lok g T e x p (sms it) c = min lv (e - p + 1) := by
    unfold lok
    by_cases h1 : ∃ a, a < gA g x ∧ a ≠ c
    · refine mx_eq (by omega) ?_ ?_
      · rcases b5.1 with h | ⟨a, q1, q2, q3⟩
        · obtain ⟨a, q1, q2⟩ := h1
          have := b5.2 _ (.inr ⟨a, q1, q2, rfl⟩)
          omega
        · have hb := rch_bd (g := g) (T := T) (x := x) (a := a) hlt hp
          exact ⟨a, q1, q2, by omega⟩
      · rintro u _ ⟨a, q1, q2, q3⟩
        have hb := rch_bd (g := g) (T := T) (x := x) (a := a) hlt hp
        have := b5.2 _ (.inr ⟨a, q1, q2, rfl⟩)
        omega
    · have hlv : lv = 0 := by
        rcases b5.1 with h | ⟨a, q1, q2, _⟩
        · exact h
        · exact absurd ⟨a, q1, q2⟩ h1
      have : ∀ m, mx (fun v => ∃ a, a < gA g x ∧ a ≠ c ∧ v = min (rch g T e x p (sms it) a) e - p + 1) m = 0 := by
        intro m
        induction m with
        | zero => rfl
        | succ m ih => unfold mx; rw [if_neg (fun ⟨a, q1, q2, _⟩ => h1 ⟨a, q1, q2⟩), ih]
      rw [this, hlv]; omega
  generalize lok g T e x p (sms it) c = lk at hlk ⊢
  -- the facts, the marker
  have hpl3 : pil g T e (xa τ, s3) it := pil_c (τ := τ) it (fun j _ => ⟨by rw [b1.ei 18 (by decide)], by rw [b1.ei 19 (by decide)], by rw [b1.el 20 (by decide)]⟩) hpil
  have hD3 : MD d n (xa τ, s3) := by unfold MD; rw [b1.ei 17 (by decide)]; exact hD
  obtain ⟨u0, v0, v1, v2, v3, v4, v5, v6⟩ := upd7m (xi (xa τ, s3) 17) n (nI x) (nI c) (nI p) (-1) (sI v) 0 (nI lk)
  generalize hF7 : upd (upd (upd (upd (upd (upd (upd (xi (xa τ, s3) 17) (7 * n) (nI x)) (7 * n + 1) (nI c)) (7 * n + 2) (nI p)) (7 * n + 3) (-1)) (7 * n + 4) (sI v)) (7 * n + 5) 0) (7 * n + 6) (nI lk) = F7 at u0 v0 v1 v2 v3 v4 v5 v6
  have hnode : ∀ (F : Nat → Int32), (∀ i, i < 7 * n → ¬ (∃ w : Nat, v = w ∧ i = 7 * w + 5) → F i = F7 i) → (∀ i, 7 * n ≤ i → F i = F7 i) → (∀ w : Nat, v = w → F (7 * w + 5) = sI (d w 5 + 1)) → ∀ u, u < n + 1 → ∀ j, j < 7 → F (7 * u + j) = sI (nwD d n x c p v lk u j) := by
    intro F q1 q2 q3 u hu j hj
    by_cases eu : u = n
    · subst eu
      rw [q2 _ (by omega)]
      have hj : j = 0 ∨ j = 1 ∨ j = 2 ∨ j = 3 ∨ j = 4 ∨ j = 5 ∨ j = 6 := by omega
      rcases hj with rfl | rfl | rfl | rfl | rfl | rfl | rfl
      · rw [nwD_0]; exact v0
      · rw [nwD_1]; exact v1
      · rw [nwD_2]; exact v2
      · rw [nwD_3]; exact v3
      · rw [nwD_4]; exact v4
      · rw [nwD_5]; exact v5
      · rw [nwD_6]; exact v6
    · by_cases c5 : (u : Int) = v ∧ j = 5
      · obtain ⟨c5, rfl⟩ := c5
        rw [nwD_v eu c5]; exact q3 u c5.symm
      · rw [nwD_ne eu c5, q1 _ (by omega) (fun ⟨w, q4, q5⟩ => c5 ⟨by omega, by omega⟩), u0 _ (by omega)]
        exact hD3 u (by omega) j hj
  -- after the marker: a state s4
  have fin : ∀ (s4 : Sq), Fm (fun k => k = 17) noP (xa τ, s3) (xa τ, s4) → MD (nwD d n x c p v lk) (n + 1) (xa τ, s4) →
      (∀ (x9 : Int32), ∀ q, (fun q : KP => Bd q.1 G q.2.1 "FirstTreesModel" c_M_makeNode 13 none rm_M_makeNode) q → ∀ s5, Ct y_M_push c_M_push 5 none rm_M_push G [.ref (xa τ 0), .int ((-100) - nI n), .int (nI n), .long w] (WM G (xa τ, s4)) (eqp none (WM G (xa τ, s5))) → Lb q.1 G q.2.1 (Qe q.1 G q.2.1 q.2.2 rm_M_makeNode) 13 282 [(0, .ref (xa τ 0)), (1, .int (nI x)), (2, .int (sI v)), (3, .int (nI p)), (4, .int (nI n)), (5, .long w), (7, .int (nI c)), (8, .int (nI lv)), (9, .int (nI (e - p + 1))), (10, .int (7 * nI n)), (11, .int (xi (xa τ, s5) 2 (8 * x + c) - 1))] [] (WM G (xa τ, s5)) 0 0 → Lb q.1 G q.2.1 (Qe q.1 G q.2.1 q.2.2 rm_M_makeNode) 13 83 [(0, .ref (xa τ 0)), (1, .int (nI x)), (2, .int (sI v)), (3, .int (nI p)), (4, .int (nI n)), (5, .long w), (7, .int (nI c)), (8, .int (nI lv)), (9, .int (nI (gA g x)))] [] (WM G (xa τ, s3)) 0 0) →
      ∃ s : Sq, (pil g T e (xa τ, s) (itm n (rsy g (8 * x + c) 0) ++ (-100 - (n : Int), (n : Int)) :: it) ∧ xi (xa τ, s) 0 6 = nI (itm n (rsy g (8 * x + c) 0) ++ (-100 - (n : Int), (n : Int)) :: it).length ∧ xi (xa τ, s) 0 5 = nI (n + 1) ∧
        MD (nwD d n x c p v lk) (n + 1) (xa τ, s) ∧ (∃ u, u ≤ 60 ∧ xi (xa τ, s) 0 7 = nI u) ∧ Fm pMN jMN τ (xa τ, s)) ∧ Ct y_M_makeNode c_M_makeNode 13 none rm_M_makeNode G [.ref (xa τ 0), .int (nI x), .int (sI v), .int (nI p)] (WM G τ) (eqp none (WM G (xa τ, s))) := by
    intro s4 hF4 hD4 kk4
    have hH4 : xi (xa τ, s4) 0 6 = nI it.length := (hF4.2.1 6 (fun q => q)).trans b2
    have tp := ct_M_push_ G (xa τ, s4) ((-100) - nI n) (nI n) w it.length hH4 (by omega)
    rw [hH4, n_s] at tp
    have em : (-100 : Int32) - nI n = sI (-100 - (n : Int)) := by rw [show (-100 : Int32) = sI (-100) from rfl, nI_sI, sI_sub]
    generalize hs5 : (wi (wl (wi (wi (xa τ, s4) 18 it.length ((-100) - nI n)) 19 it.length (nI n)) 20 it.length w) 0 6 (nI (it.length + 1))).2 = s5
    have e5 : (xa τ, s5) = wi (wl (wi (wi (xa τ, s4) 18 it.length ((-100) - nI n)) 19 it.length (nI n)) 20 it.length w) 0 6 (nI (it.length + 1)) := by rw [← hs5]; rfl
    have hF5 : Fm pMN jMN τ (xa τ, s5) := by
      rw [e5]
      have h4 : Fm pMN jMN τ (xa τ, s4) := (b1.mono (P' := pMN) (fun k hk => hk.elim) (fun k hk => hk)).trans (hF4.mono (fun k hk => .inl hk) (fun k hk => hk.elim))
      exact (((h4.i (k := 18) (.inr (.inl rfl)) (by decide) _ _).i (k := 19) (.inr (.inr (.inl rfl))) (by decide) _ _).l (k := 20) (.inr (.inr (.inr rfl))) (by decide) _ _).z (i := 6) (.inr (.inl rfl)) _
    have hpl5 : pil g T e (xa τ, s5) ((-100 - (n : Int), (n : Int)) :: it) := by
      rw [e5]
      refine ⟨?_, upd_at _ _ _, ?_, ?_⟩
      · show upd (xi (xa τ, s4) 18) it.length ((-100) - nI n) it.length = _
        rw [upd_at, em]
      · intro q
        show tb (vp_updL (xl (xa τ, s4) 20) it.length w it.length) q = true ↔ _
        rw [updL_at, hwb, sms_mark (by omega)]
      · refine pil_c (τ := (xa τ, s3)) it (fun j hj => ⟨?_, ?_, ?_⟩) hpl3
        · show upd (xi (xa τ, s4) 18) it.length _ j = _
          rw [upd_ne _ _ (by omega), hF4.ei 18 (by decide)]
        · show upd (xi (xa τ, s4) 19) it.length _ j = _
          rw [upd_ne _ _ (by omega), hF4.ei 19 (by decide)]
        · show vp_updL (xl (xa τ, s4) 20) it.length _ j = _
          rw [updL_ne _ _ (by omega), hF4.el 20 (by decide)]
    have hg5 : GM g (xa τ, s5) := hg.fm hF5 (by decide) (by decide)
    obtain ⟨s6, ⟨m1, m2, m3⟩, k6⟩ := m_pushRow G (τ := (xa τ, s5)) (nd := n) hw hg5 h2 hT (hI.fm hF5 (by decide) (by decide)) (fun y hy q hq => (hok y hy q hq).fm hF5 (by decide)) hx c1 (l := (-100 - (n : Int), (n : Int)) :: it) (by rw [sms_mark (by omega)]; exact hlt) (Nat.succ_pos _) hpl5 (by rw [e5]; rfl) (by show it.length + 1 + 8 < 20000; omega) (sI v) (nI p) (nI lv) (nI (e - p + 1)) (7 * nI n) w
    have m3 : Fm (fun k => k = 18 ∨ k = 19 ∨ k = 20) (fun i => i = 6) (xa τ, s5) (xa τ, s6) := m3
    refine ⟨s6, ⟨m1, m2, ?_, ?_, ?_, hF5.trans (m3.mono (fun k hk => .inr hk) (fun k hk => .inr (.inl hk)))⟩, ?_⟩
    · rw [m3.2.1 5 (by decide), e5]
      show xi (xa τ, s4) 0 5 = _
      rw [hF4.2.1 5 (fun q => q)]; exact b3
    · unfold MD
      rw [m3.ei 17 (by decide), e5]
      exact hD4
    · obtain ⟨u, q1, q2⟩ := b4
      refine ⟨u, q1, ?_⟩
      rw [m3.2.1 7 (by decide), e5]
      show xi (xa τ, s4) 0 7 = _
      rw [hF4.2.1 7 (fun q => q)]; exact q2
    · refine Ct.of (by decide +kernel) (Nat.le_of_ble_eq_true rfl) (fun K X => ?_)
      refine k0 (K, _, _) X (k1 (K, _, _) X ?_)
      refine sg_M_makeNode_53_t83 X (xa τ, s1) _ _ _ _ _ _ r2 s2 t2 (by rw [hand r2 c e3]; exact fun q => q c2) (k3 (K, _, _) X ?_)
      refine kk4 0 (K, _, _) X s5 (by rw [e5]; exact tp) ?_
      rw [hg5.2.2.1 _ hrow, dI_n]
      refine k6 (K, _, _) X ?_
      exact sg_M_makeNode_282_tr X (xa τ, s6) _ _ _ _ _ _ _ _ _ _ dI_0 ⟨rfl, rfl⟩
  have hc91 : xi (xa τ, s3) 1 x ≤ nI (gA g x) := by rw [(GMx b1).2.1 x (by omega), n_le (by omega) (by omega)]; omega
  have hmost : xi (xa τ, s3) 0 3 - nI p + 1 = nI (e - p + 1) := by rw [(IMx b1).1, n_sub hp, n_s]
  have e7 : 7 * nI n = nI (7 * n) := by rw [show (7 : Int32) = nI 7 from rfl, n_mul]
  have i7 : ∀ j : Nat, 7 * nI n + nI j = nI (7 * n + j) := fun j => m7' n j
  by_cases c240 : v < 0
  · have hv : v = -1 := by omega
    have d240 : sI v < 0 := (z_lt (by omega) (by omega)).mpr c240
    refine fin (wi (wi (wi (wi (wi (wi (wi (xa τ, s3) 17 (7 * n) (nI x)) 17 (7 * n + 1) (nI c)) 17 (7 * n + 2) (nI p)) 17 (7 * n + 3) (-1)) 17 (7 * n + 4) (sI v)) 17 (7 * n + 5) 0) 17 (7 * n + 6) (nI lk)).2 ?_ ?_ ?_
    · exact ((((((((Fm.refl (fun k => k = 17) noP (xa τ, s3)).i (k := 17) rfl (by decide) _ _).i (k := 17) rfl (by decide) _ _).i (k := 17) rfl (by decide) _ _).i (k := 17) rfl (by decide) _ _).i (k := 17) rfl (by decide) _ _).i (k := 17) rfl (by decide) _ _).i (k := 17) rfl (by decide) _ _)
    · intro u hu j hj
      show upd (upd (upd (upd (upd (upd (upd (xi (xa τ, s3) 17) (7 * n) (nI x)) (7 * n + 1) (nI c)) (7 * n + 2) (nI p)) (7 * n + 3) (-1)) (7 * n + 4) (sI v)) (7 * n + 5) 0) (7 * n + 6) (nI lk) (7 * u + j) = _
      rw [hF7]
      exact hnode F7 (fun _ _ _ => rfl) (fun _ _ => rfl) (fun w hw => by omega) u hu j hj
    · intro x9 q X s5 tp kk
      by_cases c228 : lv ≤ e - p + 1
      · have : lk = lv := by omega
        subst this
        refine sg_M_makeNode_83_ttt282 X (xa τ, s3) _ _ _ _ _ _ _ _ x (7 * n) (7 * n + 1) (7 * n + 2) (7 * n + 3) (7 * n + 4) (7 * n + 5) (7 * n + 6) s5 (8 * x + c) rfl (by omega) hc91 e7 (by omega) (i7 1) (by omega) (i7 2) (by omega) (i7 3) (by omega) (i7 4) (by omega) (i7 5) (by omega) (by rw [hmost, n_le (by omega) (by omega)]; exact c228) (i7 6) (by omega) d240 tp (m8 x c) hrow ?_
        rw [hmost]; exact kk
      · have : lk = e - p + 1 := by omega
        subst this
        refine sg_M_makeNode_83_tft282 X (xa τ, s3) _ _ _ _ _ _ _ _ x (7 * n) (7 * n + 1) (7 * n + 2) (7 * n + 3) (7 * n + 4) (7 * n + 5) (7 * n + 6) s5 (8 * x + c) rfl (by omega) hc91 e7 (by omega) (i7 1) (by omega) (i7 2) (by omega) (i7 3) (by omega) (i7 4) (by omega) (i7 5) (by omega) (by rw [hmost, n_le (by omega) (by omega)]; exact c228) (i7 6) (by omega) d240 (by rw [hmost]; exact tp) (m8 x c) hrow ?_
        rw [hmost]; exact kk
  · obtain ⟨pv, rfl⟩ : ∃ pv : Nat, v = pv := ⟨v.toNat, by omega⟩
    have hpv : pv < n := by omega
    have d240 : ¬ sI (pv : Int) < 0 := fun q => c240 ((z_lt (by omega) (by omega)).mp q)
    have e254 : 7 * sI (pv : Int) + 5 = nI (7 * pv + 5) := m7' pv 5
    have hold : F7 (7 * pv + 5) = sI (d pv 5) := by rw [u0 _ (by omega)]; exact hD3 pv hpv 5 (by omega)
    refine fin (wi (wi (wi (wi (wi (wi (wi (wi (xa τ, s3) 17 (7 * n) (nI x)) 17 (7 * n + 1) (nI c)) 17 (7 * n + 2) (nI p)) 17 (7 * n + 3) (-1)) 17 (7 * n + 4) (sI (pv : Int))) 17 (7 * n + 5) 0) 17 (7 * n + 6) (nI lk)) 17 (7 * pv + 5) (sI (d pv 5 + 1))).2 ?_ ?_ ?_
    · exact (((((((((Fm.refl (fun k => k = 17) noP (xa τ, s3)).i (k := 17) rfl (by decide) _ _).i (k := 17) rfl (by decide) _ _).i (k := 17) rfl (by decide) _ _).i (k := 17) rfl (by decide) _ _).i (k := 17) rfl (by decide) _ _).i (k := 17) rfl (by decide) _ _).i (k := 17) rfl (by decide) _ _).i (k := 17) rfl (by decide) _ _)
    · intro u hu j hj
      show upd (upd (upd (upd (upd (upd (upd (upd (xi (xa τ, s3) 17) (7 * n) (nI x)) (7 * n + 1) (nI c)) (7 * n + 2) (nI p)) (7 * n + 3) (-1)) (7 * n + 4) (sI (pv : Int))) (7 * n + 5) 0) (7 * n + 6) (nI lk)) (7 * pv + 5) (sI (d pv 5 + 1)) (7 * u + j) = _
      rw [hF7]
      refine hnode (upd F7 (7 * pv + 5) (sI (d pv 5 + 1))) (fun i hi hne => upd_ne _ _ (fun q => hne ⟨pv, rfl, q⟩)) (fun i hi => upd_ne _ _ (by omega)) (fun w hw => ?_) u hu j hj
      have : w = pv := by omega
      subst this; exact upd_at _ _ _
    · intro x9 q X s5 tp kk
      have hval : ∀ lk', nI lk' = nI lk → xi (wi (wi (wi (wi (wi (wi (wi (xa τ, s3) 17 (7 * n) (nI x)) 17 (7 * n + 1) (nI c)) 17 (7 * n + 2) (nI p)) 17 (7 * n + 3) (-1)) 17 (7 * n + 4) (sI (pv : Int))) 17 (7 * n + 5) 0) 17 (7 * n + 6) (nI lk')) 17 (7 * pv + 5) + 1 = sI (d pv 5 + 1) := by
        intro lk' hl'
        rw [hl']
        show upd (upd (upd (upd (upd (upd (upd (xi (xa τ, s3) 17) (7 * n) (nI x)) (7 * n + 1) (nI c)) (7 * n + 2) (nI p)) (7 * n + 3) (-1)) (7 * n + 4) (sI (pv : Int))) (7 * n + 5) 0) (7 * n + 6) (nI lk) (7 * pv + 5) + 1 = _
        rw [hF7, hold, show (1 : Int32) = sI 1 from rfl, sI_add]
      by_cases c228 : lv ≤ e - p + 1
      · have : lk = lv := by omega
        subst this
        refine sg_M_makeNode_83_ttf282 X (xa τ, s3) _ _ _ _ _ _ _ _ x (7 * n) (7 * n + 1) (7 * n + 2) (7 * n + 3) (7 * n + 4) (7 * n + 5) (7 * n + 6) (7 * pv + 5) s5 (8 * x + c) rfl (by omega) hc91 e7 (by omega) (i7 1) (by omega) (i7 2) (by omega) (i7 3) (by omega) (i7 4) (by omega) (i7 5) (by omega) (by rw [hmost, n_le (by omega) (by omega)]; exact c228) (i7 6) (by omega) d240 e254 (by omega) (by rw [hval _ rfl]; exact tp) (m8 x c) hrow ?_
        rw [hmost]; exact kk
      · have : lk = e - p + 1 := by omega
        subst this
        refine sg_M_makeNode_83_tff282 X (xa τ, s3) _ _ _ _ _ _ _ _ x (7 * n) (7 * n + 1) (7 * n + 2) (7 * n + 3) (7 * n + 4) (7 * n + 5) (7 * n + 6) (7 * pv + 5) s5 (8 * x + c) rfl (by omega) hc91 e7 (by omega) (i7 1) (by omega) (i7 2) (by omega) (i7 3) (by omega) (i7 4) (by omega) (i7 5) (by omega) (by rw [hmost, n_le (by omega) (by omega)]; exact c228) (i7 6) (by omega) d240 e254 (by omega) (by rw [hmost, hval _ rfl]; exact tp) (m8 x c) hrow ?_
        rw [hmost]; exact kk
