/-! the reference's before and reachOf -/
theorem m_before (G : GG) {g : Gr} {T : Nat → Int} {e : Nat} {τ : St} (hT : WT T e) (hI : IM T e τ) (hok : ∀ y, y < gR g → ∀ q, q ≤ e → okM g T e τ y q) {z : Int} {l : List Int} {w : Int64} (hz : -16 ≤ z ∧ z ≤ 31) (hl : LV g (z :: l)) (hwb : ∀ q, tb w q = true ↔ (q ≤ e ∧ RR g T e l q = e + 1)) :
    ∃ r, (∀ q, tb r q = true ↔ (q ≤ e ∧ RR g T e (z :: l) q = e + 1)) ∧ Ct y_M_before c_M_before 8 (some .long) rm_M_before G [.ref (xa τ 0), .long w, .int (sI z)] (WM G τ) (eqp (some (.long r)) (WM G τ)) := by
  have h60 := hT.1
  obtain ⟨r, h1, k1⟩ := iterL (α := Int64) (C := fun q : KP => Bd q.1 G q.2.1 "FirstTreesModel" c_M_before 8 (some .long) rm_M_before) (e + 1) (fun i r => ∀ q, tb r q = true ↔ (q < i ∧ RR g T e (z :: l) q = e + 1))
    (fun q i r => Lb q.1 G q.2.1 (Qe q.1 G q.2.1 q.2.2 rm_M_before) 8 6 [(0, .ref (xa τ 0)), (1, .long w), (3, .int (sI z)), (4, .long r), (6, .int (nI i))] [] (WM G τ) 0 0) (by
    intro i r hi hr
    have c12 : ¬ xi τ 0 3 < nI i := by rw [hI.1, n_lt (by omega) (by omega)]; omega
    have hgd := Gd_cons (T := T) (e := e) (q := i) hl (by omega)
    have yes : RR g T e (z :: l) i = e + 1 → ∀ q, tb (r ||| shlL 1 (nI i)) q = true ↔ (q < i + 1 ∧ RR g T e (z :: l) q = e + 1) := by
      intro hy q
      rw [tb_or, Bool.or_eq_true, hr, tb_shlL (by omega), decide_eq_true_eq]
      constructor
      · rintro (h | h)
        · exact ⟨by omega, h.2⟩
        · subst h; exact ⟨by omega, hy⟩
      · rintro ⟨h1, h2⟩
        by_cases eq : q = i
        · exact .inr eq
        · exact .inl ⟨by omega, h2⟩
    have no : ¬ RR g T e (z :: l) i = e + 1 → ∀ q, tb r q = true ↔ (q < i + 1 ∧ RR g T e (z :: l) q = e + 1) := by
      intro hy q
      rw [hr]
      constructor
      · rintro h; exact ⟨by omega, h.2⟩
      · rintro ⟨h1, h2⟩
        by_cases eq : q = i
        · subst eq; exact absurd h2 hy
        · exact ⟨by omega, h2⟩
    by_cases c : z < 0
    · have hy := LV_h hl c
      have hrl : rl z < 16 := by unfold rl; omega
      have c19 : ¬ b2i (decide (sI z < 0)) = 0 := by rw [isr_1 hz.1 hz.2 c]; decide
      have e35 : 61 * ((-1) - sI z) + nI i = nI (61 * rl z + i) := by rw [rl_sI c, m61']
      obtain ⟨o1, _⟩ := hok (rl z) hy i (by omega)
      have hand : xl τ 8 (61 * rl z + i) &&& w = 0 ↔ ¬ RR g T e (z :: l) i = e + 1 := by
        rw [tb_z, hgd]
        constructor
        · rintro h ⟨m, q1, q2⟩
          rcases q1 with q1 | q1
          · omega
          · have := h m
            rw [tb_and, (o1 m).mpr q1.2, (hwb m).mpr ⟨(En_bd q1.2).2.2.1, q2⟩] at this; cases this
        · intro h m
          rw [← Bool.not_eq_true, tb_and, Bool.and_eq_true, o1, hwb]
          rintro ⟨q1, q2, q3⟩
          exact h ⟨m, .inr ⟨c, q1⟩, q3⟩
      by_cases d : RR g T e (z :: l) i = e + 1
      · refine ⟨_, yes d, fun q X kk => ?_⟩
        refine sg_M_before_6_fff6 X τ _ _ _ _ (61 * rl z + i) c12 c19 e35 (by omega) (by rw [hand]; exact fun w => w d) ?_
        rw [n_s]; exact kk
      · refine ⟨_, no d, fun q X kk => ?_⟩
        refine sg_M_before_6_fft6 X τ _ _ _ _ (61 * rl z + i) c12 c19 e35 (by omega) (hand.mpr d) ?_
        rw [n_s]; exact kk
    · have c19 : b2i (decide (sI z < 0)) = 0 := isr_0 hz.1 hz.2 c
      by_cases c57 : e ≤ i
      · have d : ¬ RR g T e (z :: l) i = e + 1 := by
          rw [hgd]; rintro ⟨m, q1 | q1, q2⟩
          · omega
          · exact c q1.1
        refine ⟨_, no d, fun q X kk => ?_⟩
        refine sg_M_before_6_ftt6 X τ _ _ _ _ c12 c19 (by rw [hI.1, n_le (by omega) (by omega)]; exact c57) ?_
        rw [n_s]; exact kk
      · have d57 : ¬ xi τ 0 3 ≤ nI i := by rw [hI.1, n_le (by omega) (by omega)]; exact c57
        have hTi := hT.2 i
        by_cases c68 : T i = z
        · have hbit : shrL w (nI i + 1) &&& 1 = 1 ↔ RR g T e (z :: l) i = e + 1 := by
            rw [n_s, shr1 (by omega), hwb, hgd]
            constructor
            · rintro ⟨q1, q2⟩; exact ⟨i + 1, .inl ⟨by omega, by omega, c68, rfl⟩, q2⟩
            · rintro ⟨m, q1 | q1, q2⟩
              · have := q1.2.2.2; subst this; exact ⟨by omega, q2⟩
              · exact absurd q1.1 c
          have e68 : xi τ 7 i = sI z := by rw [hI.2 i (by omega), c68]
          by_cases d : RR g T e (z :: l) i = e + 1
          · refine ⟨_, yes d, fun q X kk => ?_⟩
            refine sg_M_before_6_ftfff6 X τ _ _ _ _ i c12 c19 d57 rfl (by omega) e68 (hbit.mpr d) ?_
            rw [n_s]; exact kk
          · refine ⟨_, no d, fun q X kk => ?_⟩
            refine sg_M_before_6_ftfft6 X τ _ _ _ _ i c12 c19 d57 rfl (by omega) e68 (fun w => d (hbit.mp w)) ?_
            rw [n_s]; exact kk
        · have d : ¬ RR g T e (z :: l) i = e + 1 := by
            rw [hgd]; rintro ⟨m, q1 | q1, q2⟩
            · exact c68 q1.2.2.1
            · exact c q1.1
          refine ⟨_, no d, fun q X kk => ?_⟩
          refine sg_M_before_6_ftft6 X τ _ _ _ _ i c12 c19 d57 rfl (by omega) (by rw [hI.2 i (by omega), sI_eq (by omega) (by omega) (by omega) (by omega)]; exact c68) ?_
          rw [n_s]; exact kk) 0 0 (Nat.zero_le _) (fun q => by rw [tb_0]; exact ⟨fun h => (by cases h), fun h => absurd h.1 (Nat.not_lt_zero _)⟩)
  refine ⟨r, fun q => by rw [h1 q]; exact ⟨fun h => ⟨by omega, h.2⟩, fun h => ⟨by omega, h.2⟩⟩, ?_⟩
  refine Ct.of (by decide +kernel) (Nat.le_of_ble_eq_true rfl) (fun K X => ?_)
  refine sg_M_before_0_6 X τ _ _ (k1 (K, _, _) X ?_)
  exact sg_M_before_6_tr X τ _ _ _ _ (by rw [hI.1, n_lt (by omega) (by omega)]; omega) ⟨rfl, rfl⟩
/-- the pile -/
def pil (g : Gr) (T : Nat → Int) (e : Nat) (τ : St) : Itm → Prop
  | [] => True
  | (s, v) :: l => xi τ 18 l.length = sI s ∧ xi τ 19 l.length = sI v ∧ (∀ q, tb (xl τ 20 l.length) q = true ↔ (q ≤ e ∧ RR g T e (sms ((s, v) :: l)) q = e + 1)) ∧ pil g T e τ l
theorem pil_c {g : Gr} {T : Nat → Int} {e : Nat} {τ τ' : St} (l : Itm) (h : ∀ j, j < l.length → xi τ' 18 j = xi τ 18 j ∧ xi τ' 19 j = xi τ 19 j ∧ xl τ' 20 j = xl τ 20 j) (hs : pil g T e τ l) : pil g T e τ' l := by
  induction l with
  | nil => trivial
  | cons a l ih =>
    obtain ⟨s, v⟩ := a
    obtain ⟨h1, h2, h3, h4⟩ := hs
    obtain ⟨g1, g2, g3⟩ := h l.length (Nat.lt_succ_self _)
    exact ⟨by rw [g1]; exact h1, by rw [g2]; exact h2, by rw [g3]; exact h3, ih (fun j hj => h j (Nat.lt_succ_of_lt hj)) h4⟩
theorem pil_at {g : Gr} {T : Nat → Int} {e : Nat} {τ : St} (pre l : Itm) (s v : Int) (h : pil g T e τ (pre ++ (s, v) :: l)) : xi τ 18 l.length = sI s := by
  induction pre with
  | nil => exact h.1
  | cons a pre ih => obtain ⟨s', v'⟩ := a; exact ih h.2.2.2
theorem m_reach77 (G : GG) {g : Gr} {T : Nat → Int} {e : Nat} {τ : St} (hT : WT T e) (hI : IM T e τ) {w : Int64} (S : Nat → Prop) (hS : ∀ i, tb w i = true ↔ S i) (hSe : ∀ i, S i → i ≤ e) {f p : Nat} (hf : xi τ 0 7 = nI f) (hfe : f ≤ e) (hpf : p ≤ f) (x1 x2 : Int32) :
    ∃ s : Sq, (Fm noP j7 τ (xa τ, s) ∧ (∃ u, u ≤ 60 ∧ xi (xa τ, s) 0 7 = nI u)) ∧ ∀ q, (fun q : KP => Bd q.1 G q.2.1 "FirstTreesModel" c_M_reachOf 7 (some .int) rm_M_reachOf) q → q.2.2 (some (.int (nI (fth f S (RR g T e []) e - p)))) (WM G (xa τ, s)) → Lb q.1 G q.2.1 (Qe q.1 G q.2.1 q.2.2 rm_M_reachOf) 7 77 [(0, .ref (xa τ 0)), (1, .int x1), (2, .int x2), (3, .int (nI p)), (4, .long w), (6, .int (nI 0))] [] (WM G τ) 0 0 := by
  have h60 := hT.1
  obtain ⟨⟨s, v⟩, ⟨a1, a2, a3⟩, k1⟩ := iterL (α := Sq × Nat) (C := fun q : KP => Bd q.1 G q.2.1 "FirstTreesModel" c_M_reachOf 7 (some .int) rm_M_reachOf) (e + 1) (fun i b => Fm noP j7 τ (xa τ, b.1) ∧ xi (xa τ, b.1) 0 7 = nI b.2 ∧ isMx (fun m => m = f ∨ (m < i ∧ S m)) b.2)
    (fun q i b => Lb q.1 G q.2.1 (Qe q.1 G q.2.1 q.2.2 rm_M_reachOf) 7 77 [(0, .ref (xa τ 0)), (1, .int x1), (2, .int x2), (3, .int (nI p)), (4, .long w), (6, .int (nI i))] [] (WM G (xa τ, b.1)) 0 0) (by
    intro i ⟨s, v⟩ hi ⟨a1, a2, a3⟩
    have a1 : Fm noP j7 τ (xa τ, s) := a1
    have a2 : xi (xa τ, s) 0 7 = nI v := a2
    have a3 : isMx (fun m => m = f ∨ (m < i ∧ S m)) v := a3
    have hvb : v ≤ e := by
      rcases a3.1 with q | q
      · omega
      · exact hSe v q.2
    have hI' : IM T e (xa τ, s) := hI.fm a1 (by decide) (fun q => q)
    have c83 : ¬ xi (xa τ, s) 0 3 < nI i := by rw [hI'.1, n_lt (by omega) (by omega)]; omega
    by_cases c : S i
    · have c95 : shrL w (nI i) &&& 1 = 1 := by rw [shr1 (by omega), hS]; exact c
      by_cases d : i ≤ v
      · refine ⟨((wi (xa τ, s) 0 7 (xi (xa τ, s) 0 7)).2, v), ⟨a1.z (i := 7) rfl _, a2, ?_⟩, fun q X kk => ?_⟩
        · refine ⟨?_, ?_⟩
          · rcases a3.1 with q | q
            · exact .inl q
            · exact .inr ⟨by omega, q.2⟩
          · rintro m (q | q)
            · exact a3.2 m (.inl q)
            · by_cases em : m = i
              · subst em; exact d
              · exact a3.2 m (.inr ⟨by omega, q.2⟩)
        · refine sg_M_reachOf_77_fft77 X (xa τ, s) _ _ _ _ _ c83 c95 (by rw [a2, n_le (by omega) (by omega)]; exact d) ?_
          rw [n_s]; exact kk
      · refine ⟨((wi (xa τ, s) 0 7 (nI i)).2, i), ⟨a1.z (i := 7) rfl _, rfl, ?_⟩, fun q X kk => ?_⟩
        · refine ⟨.inr ⟨by omega, c⟩, ?_⟩
          rintro m (q | q)
          · have := a3.2 m (.inl q); show m ≤ i; omega
          · show m ≤ i; omega
        · refine sg_M_reachOf_77_fff77 X (xa τ, s) _ _ _ _ _ c83 c95 (by rw [a2, n_le (by omega) (by omega)]; exact d) ?_
          rw [n_s]; exact kk
    · refine ⟨((wi (xa τ, s) 0 7 (xi (xa τ, s) 0 7)).2, v), ⟨a1.z (i := 7) rfl _, a2, a3.congr (fun m => ?_)⟩, fun q X kk => ?_⟩
      · constructor
        · rintro (q | q)
          · exact .inl q
          · exact .inr ⟨by omega, q.2⟩
        · rintro (q | q)
          · exact .inl q
          · by_cases em : m = i
            · subst em; exact absurd q.2 c
            · exact .inr ⟨by omega, q.2⟩
      · refine sg_M_reachOf_77_ft77 X (xa τ, s) _ _ _ _ _ c83 (by rw [shr1 (by omega), hS]; exact c) ?_
        rw [n_s]; exact kk) 0 (τ.2, f) (Nat.zero_le _) ⟨Fm.refl _ _ _, hf, .inl rfl, by
      rintro m (q | q)
      · exact Nat.le_of_eq q
      · exact absurd q.1 (Nat.not_lt_zero _)⟩
  have a1 : Fm noP j7 τ (xa τ, s) := a1
  have a2 : xi (xa τ, s) 0 7 = nI v := a2
  have a3 : isMx (fun m => m = f ∨ (m < e + 1 ∧ S m)) v := a3
  have hvb : v ≤ e := by
    rcases a3.1 with q | q
    · omega
    · exact hSe v q.2
  have hfv : f ≤ v := a3.2 f (.inl rfl)
  have hI' : IM T e (xa τ, s) := hI.fm a1 (by decide) (fun q => q)
  refine ⟨s, ⟨a1, v, by omega, a2⟩, fun q X kk => k1 q X ?_⟩
  have c83 : xi (xa τ, s) 0 3 < nI (e + 1) := by rw [hI'.1, n_lt (by omega) (by omega)]; omega
  rw [fth_end hfe hSe] at kk
  by_cases c : S e
  · rw [if_pos c] at kk
    refine sg_M_reachOf_77_tfr X (xa τ, s) _ _ _ _ _ c83 (by rw [hI'.1, shr1 (by omega), hS]; exact c) ?_
    rw [hI'.1, n_s, n_sub (by omega)]; exact kk
  · rw [if_neg c, (a3.congr (S' := fun m => m = f ∨ S m) (fun m => ⟨fun q => q.elim .inl (fun q => .inr q.2), fun q => q.elim .inl (fun q => .inr ⟨by have := hSe m q; omega, q⟩)⟩)).mx hvb] at kk
    refine sg_M_reachOf_77_ttr X (xa τ, s) _ _ _ _ _ c83 (by rw [hI'.1, shr1 (by omega), hS]; exact c) ?_
    rw [a2, n_sub (by omega)]; exact kk
theorem m_reachOf (G : GG) {g : Gr} {T : Nat → Int} {e : Nat} {τ : St} (hw : WF g) (hg : GM g τ) (h2 : NoF (F2 g) (gR g)) (hT : WT T e) (hI : IM T e τ) (hok : ∀ y, y < gR g → ∀ q, q ≤ e → okM g T e τ y q) {x a p : Nat} {it : Itm} (hx : x < gR g) (ha : a < gA g x) (hp : p ≤ e) (hl : LV g (sms it)) (hib : Itb it) (hmk : ∀ y, y ∈ it → -2147483000 ≤ y.1) (hpil : pil g T e τ it) (hH : xi τ 0 6 = nI it.length) (hlen : it.length < 20000) :
    ∃ s : Sq, (Fm noP j7 τ (xa τ, s) ∧ (∃ u, u ≤ 60 ∧ xi (xa τ, s) 0 7 = nI u)) ∧ Ct y_M_reachOf c_M_reachOf 7 (some .int) rm_M_reachOf G [.ref (xa τ 0), .int (nI x), .int (nI a), .int (nI p)] (WM G τ) (eqp (some (.int (nI (rch g T e x p (sms it) a - p)))) (WM G (xa τ, s))) := by
  have h60 := hT.1
  have h16 := hw.r
  have h8 := hw.a x
  have f0 : Fm noP j7 τ (wi τ 0 7 (nI p)) := (Fm.refl noP j7 τ).z (i := 7) rfl _
  obtain ⟨s1, r1, v1, ⟨b1, b2, b3, b4, b5⟩, t1⟩ := m_along G (τ := wi τ 0 7 (nI p)) (x := x) (a := a) (p := p) (u := p) hw (hg.fm f0 (by decide) ⟨fun q => q, fun q => q, fun q => q⟩) hT (hI.fm f0 (by decide) (fun q => q)) (by omega) (by omega) hp rfl (by omega)
    (fun k hk m hr hs => ⟨rl_lt h2 hx ha hk hs, (hok _ (rl_lt h2 hx ha hk hs) m (Run_bd hp hr).2.1).fm f0 ⟨fun q => q, fun q => q⟩⟩)
  have b1 : Fm noP j7 τ (xa τ, s1) := f0.trans b1
  have b2 : xi (xa τ, s1) 0 7 = nI v1 := b2
  have b4 := b4 rfl
  have hH1 : xi (xa τ, s1) 0 6 = nI it.length := by rw [b1.2.1 6 (by decide)]; exact hH
  obtain ⟨s, ⟨c1, c2⟩, k1⟩ := iterE (α := Sq × Int64 × Nat × Itm × Itm) (β := Sq) (C := fun q : KP => Bd q.1 G q.2.1 "FirstTreesModel" c_M_reachOf 7 (some .int) rm_M_reachOf) it.length
    (fun i b => it = b.2.2.2.1 ++ b.2.2.2.2 ∧ b.2.2.2.2.length + i = it.length ∧ Fm noP j7 τ (xa τ, b.1) ∧ xi (xa τ, b.1) 0 7 = nI b.2.2.1 ∧ b.2.2.1 ≤ e ∧ p ≤ b.2.2.1 ∧ ∃ S : Nat → Prop, (∀ j, tb b.2.1 j = true ↔ S j) ∧ (∀ j, S j → j ≤ e) ∧ fth b.2.2.1 S (RR g T e (sms b.2.2.2.2)) e = rch g T e x p (sms it) a)
    (fun q i b => Lb q.1 G q.2.1 (Qe q.1 G q.2.1 q.2.2 rm_M_reachOf) 7 24 [(0, .ref (xa τ 0)), (1, .int (nI x)), (2, .int (nI a)), (3, .int (nI p)), (4, .long b.2.1), (6, .int (dI (it.length - i)))] [] (WM G (xa τ, b.1)) 0 0)
    (fun s : Sq => Fm noP j7 τ (xa τ, s) ∧ (∃ u, u ≤ 60 ∧ xi (xa τ, s) 0 7 = nI u)) (fun q s => q.2.2 (some (.int (nI (rch g T e x p (sms it) a - p)))) (WM G (xa τ, s))) (by
    intro i ⟨s, w, v, pre, suf⟩ hi ⟨a1, a2, a3, a4, a5, a6, S, a7, a8, a9⟩
    have a1 : it = pre ++ suf := a1
    have a2 : suf.length + i = it.length := a2
    have a3 : Fm noP j7 τ (xa τ, s) := a3
    have a4 : xi (xa τ, s) 0 7 = nI v := a4
    have a5 : v ≤ e := a5
    have a6 : p ≤ v := a6
    have a7 : ∀ j, tb w j = true ↔ S j := a7
    have a9 : fth v S (RR g T e (sms suf)) e = rch g T e x p (sms it) a := a9
    have hI' : IM T e (xa τ, s) := hI.fm a3 (by decide) (fun q => q)
    cases suf with
    | nil => exact absurd a2 (by show ¬ 0 + i = it.length; omega)
    | cons y l =>
      obtain ⟨z, nd⟩ := y
      have a2 : l.length + 1 + i = it.length := a2
      have edi : dI (it.length - i) = nI l.length := by rw [show it.length - i = l.length + 1 from by omega, dI_s]
      have c26 : ¬ nI l.length < 0 := dI_nn (by omega)
      by_cases c : w = 0
      · have hno : ∀ j, ¬ S j := fun j hj => by
          have := tb_z.mp c j
          rw [(a7 j).mpr hj] at this; cases this
        obtain ⟨s', ⟨d1, d2⟩, kk1⟩ := m_reach77 G (g := g) (τ := (xa τ, s)) hT hI' S a7 a8 a4 a5 a6 (nI x) (nI a)
        refine .inl ⟨s', ⟨a3.trans d1, d2⟩, fun q X kk => ?_⟩
        show Lb _ _ _ _ _ _ [(0, .ref (xa τ 0)), (1, .int (nI x)), (2, .int (nI a)), (3, .int (nI p)), (4, .long w), (6, .int (dI (it.length - i)))] _ _ _ _
        rw [edi]
        refine sg_M_reachOf_24_ft77 X (xa τ, s) _ _ _ _ _ c26 c (kk1 q X ?_)
        rw [fth_none (by omega) hno]
        rw [fth_none (by omega) hno] at a9
        rw [a9]; exact kk
      · have hmem : (z, nd) ∈ it := by rw [a1]; exact List.mem_append.mpr (.inr List.mem_cons_self)
        have hzlo : -2147483000 ≤ z := hmk _ hmem
        have hxz : xi (xa τ, s) 18 l.length = sI z := by
          rw [a3.ei 18 (by decide)]
          rw [a1] at hpil
          exact pil_at pre l z nd hpil
        by_cases d : z ≤ -100
        · refine .inr ⟨(s, w, v, pre ++ [(z, nd)], l), ⟨by rw [a1, List.append_assoc]; rfl, by show l.length + (i + 1) = it.length; omega, a3, a4, a5, a6, S, a7, a8, ?_⟩, fun q X kk => ?_⟩
          · show fth v S (RR g T e (sms l)) e = _
            rw [← a9, sms_mark d]
          · show Lb _ _ _ _ _ _ [(0, .ref (xa τ 0)), (1, .int (nI x)), (2, .int (nI a)), (3, .int (nI p)), (4, .long w), (6, .int (dI (it.length - i)))] _ _ _ _
            rw [edi]
            refine sg_M_reachOf_24_fff24 X (xa τ, s) _ _ _ _ _ l.length c26 c rfl (by omega) (by rw [hxz, show (-100 : Int32) = sI (-100) from rfl, sI_lt (by omega) (by omega) (by omega) (by omega)]; omega) ?_
            rw [dI_m, show l.length = it.length - (i + 1) from by omega]; exact kk
        · have hzb := hib _ hmem (show -100 < z by omega)
          have hzb : -16 ≤ z ∧ z ≤ 31 := hzb
          have hlv : LV g (z :: sms l) := by
            intro u hu hn
            refine hl u ?_ hn
            rw [a1]
            have : ∀ pre : Itm, u ∈ sms (pre ++ (z, nd) :: l) := by
              intro pre
              induction pre with
              | nil => show u ∈ sms ((z, nd) :: l); rw [sms_sym (by omega)]; exact hu
              | cons b pre ih =>
                obtain ⟨b1, b2⟩ := b
                show u ∈ (if b1 ≤ -100 then sms (pre ++ (z, nd) :: l) else b1 :: sms (pre ++ (z, nd) :: l))
                split
                · exact ih
                · exact List.mem_cons_of_mem _ ih
            exact this pre
          obtain ⟨s', r', v', ⟨d1, d2, d3, d4, d5⟩, t⟩ := m_step G (g := g) (τ := (xa τ, s)) (z := z) hT hI' hzb.1 hzb.2 S a7 a8 a4 (by omega) (fun hz m hm => ⟨LV_h hlv hz, (hok _ (LV_h hlv hz) m (a8 m hm)).fm a3 ⟨fun q => q, fun q => q⟩⟩)
          have hv' : v' ≤ e := tch_bd a5 a8 d4.1
          have hmx := d4.mx hv'
          have hvv : v ≤ v' := d4.2 v (.inl rfl)
          rw [sms_sym (by omega), fth_step hlv a5 a8, hmx] at a9
          refine .inr ⟨(s', r', v', pre ++ [(z, nd)], l), ⟨by rw [a1, List.append_assoc]; rfl, by show l.length + (i + 1) = it.length; omega, a3.trans d1, d2, hv', by show p ≤ v'; omega, stS g T e S z, d5, fun j hj => stS_bd hj, a9⟩, fun q X kk => ?_⟩
          show Lb _ _ _ _ _ _ [(0, .ref (xa τ 0)), (1, .int (nI x)), (2, .int (nI a)), (3, .int (nI p)), (4, .long w), (6, .int (dI (it.length - i)))] _ _ _ _
          rw [edi]
          refine sg_M_reachOf_24_fft24 X (xa τ, s) _ _ _ _ _ l.length r' s' c26 c rfl (by omega) (by rw [hxz, show (-100 : Int32) = sI (-100) from rfl, sI_lt (by omega) (by omega) (by omega) (by omega)]; omega) (by rw [hxz]; exact t) ?_
          rw [dI_m, show l.length = it.length - (i + 1) from by omega]; exact kk) (by
    intro ⟨s, w, v, pre, suf⟩ ⟨a1, a2, a3, a4, a5, a6, S, a7, a8, a9⟩
    have a2 : suf.length + it.length = it.length := a2
    have a3 : Fm noP j7 τ (xa τ, s) := a3
    have a4 : xi (xa τ, s) 0 7 = nI v := a4
    have a5 : v ≤ e := a5
    have a6 : p ≤ v := a6
    have a7 : ∀ j, tb w j = true ↔ S j := a7
    have a9 : fth v S (RR g T e (sms suf)) e = rch g T e x p (sms it) a := a9
    have hsuf : suf = [] := List.eq_nil_of_length_eq_zero (by omega)
    subst hsuf
    have hI' : IM T e (xa τ, s) := hI.fm a3 (by decide) (fun q => q)
    obtain ⟨s', ⟨d1, d2⟩, kk1⟩ := m_reach77 G (g := g) (τ := (xa τ, s)) hT hI' S a7 a8 a4 a5 a6 (nI x) (nI a)
    refine ⟨s', ⟨a3.trans d1, d2⟩, fun q X kk => ?_⟩
    show Lb _ _ _ _ _ _ [(0, .ref (xa τ 0)), (1, .int (nI x)), (2, .int (nI a)), (3, .int (nI p)), (4, .long w), (6, .int (dI (it.length - it.length)))] _ _ _ _
    rw [Nat.sub_self]
    refine sg_M_reachOf_24_t77 X (xa τ, s) _ _ _ _ _ dI_0 (kk1 q X ?_)
    have a9 : fth v S (RR g T e []) e = rch g T e x p (sms it) a := a9
    rw [a9]; exact kk) 0 (s1, r1, v1, [], it) (Nat.zero_le _) ⟨rfl, rfl, b1, b2, by rw [b4]; exact mx_le _ _, by rw [b4]; exact (mx_in hp rowT_self).2, Run g T e (8 * x + a) (gL g (8 * x + a)) p, b5, fun j hj => (Run_bd hp hj).2.1, by
      show fth v1 _ _ _ = _
      rw [b4]; rfl⟩
  refine ⟨s, ⟨c1, c2⟩, ?_⟩
  refine Ct.of (by decide +kernel) (Nat.le_of_ble_eq_true rfl) (fun K X => ?_)
  refine sg_M_reachOf_0_24 X τ _ _ _ r1 s1 t1 ?_
  rw [hH1, dI_n]
  have := k1 (K, _, eqp (some (.int (nI (rch g T e x p (sms it) a - p)))) (WM G (xa τ, s))) X ⟨rfl, rfl⟩
  exact this
