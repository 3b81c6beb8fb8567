/-! the walk's questions: how far, which alternative, how far the others -/
theorem fth_add {f : Nat} {S : Nat → Prop} {b : Nat → Nat} {e i : Nat} (hf : f ≤ e + 1) (hi : S i) (hb : ∀ q, S q → b q ≤ e + 1) : fth f (fun q => q < i + 1 ∧ S q) b e = max (fth f (fun q => q < i ∧ S q) b e) (b i) := by
  have h1 := le_fth1 (f := f) (S := fun q => q < i ∧ S q) (b := b) (e := e) hf
  have h2 := le_fth1 (f := f) (S := fun q => q < i + 1 ∧ S q) (b := b) (e := e) hf
  have h3 := le_fth2 (f := f) (S := fun q => q < i + 1 ∧ S q) (b := b) (e := e) (m := i) ⟨by omega, hi⟩ (hb i hi)
  refine Nat.le_antisymm (fth_le hf (by omega) (fun m hm => ?_)) (Nat.max_le.mpr ⟨fth_le hf h2 (fun m hm => ?_), h3⟩)
  · by_cases e1 : m = i
    · subst e1; omega
    · have := le_fth2 (f := f) (S := fun q => q < i ∧ S q) (b := b) (e := e) (m := m) ⟨by omega, hm.2⟩ (hb m hm.2); omega
  · exact le_fth2 (f := f) (S := fun q => q < i + 1 ∧ S q) (b := b) (e := e) (m := m) ⟨by omega, hm.2⟩ (hb m hm.2)
theorem k_farthest (G : GG) {e : Nat} {σ : St} (he : e ≤ 60) (hE : xi σ 12 0 = nI e) {f p m : Nat} (hm : m < xn σ) (hf : f ≤ e) (hp : p ≤ e) {w : Int64} (S : Nat → Prop) (hS : ∀ i, tb w i = true ↔ S i) (hSe : ∀ i, S i → p ≤ i ∧ i ≤ e) (b : Nat → Nat) (hb : ∀ q, S q → xp σ (2 * m + 1) q = nI (b q) ∧ b q ≤ e + 1) :
    Ct y_K_farthest c_K_farthest 8 (some .int) rm_K_farthest G [.ref (xa σ 22), .int (nI f), .long w, .int (nI p), .ref (xa σ (29 + 2 * m))] (WC G σ) (eqp (some (.int (nI (fth f S b e)))) (WC G σ)) := by
  obtain ⟨r, h1, k1⟩ := iterE (α := Nat) (β := Nat) (C := fun q : KP => Bd q.1 G q.2.1 "FirstTrees$Walk" c_K_farthest 8 (some .int) rm_K_farthest) (e + 1) (fun i v => v = fth f (fun q => q < i ∧ S q) b e)
    (fun q i v => Lb q.1 G q.2.1 (Qe q.1 G q.2.1 q.2.2 rm_K_farthest) 8 7 [(0, .ref (xa σ 22)), (1, .int (nI f)), (2, .long w), (4, .int (nI p)), (5, .ref (xa σ (29 + 2 * m))), (6, .int (nI v)), (7, .int (nI i))] [] (WC G σ) 0 0)
    (fun r => r = fth f S b e) (fun q r => q.2.2 (some (.int (nI r))) (WC G σ)) (by
    intro i v hi hv
    have hvb : v ≤ e + 1 := by rw [hv]; exact fth_bd _ _ _ _
    have c16 : ¬ xi σ 12 0 < nI i := by rw [hE, n_lt (by omega) (by omega)]; omega
    by_cases c : e < v
    · refine .inl ⟨v, ?_, fun q X kk => sg_K_farthest_7_ftr X σ _ _ _ _ _ m hm c16 (by rw [hE, n_lt (by omega) (by omega)]; exact c) kk⟩
      have h2 := fth_bd f S b e
      have h3 : fth f (fun q => q < i ∧ S q) b e ≤ fth f S b e := fth_le (by omega) (le_fth1 (by omega)) (fun m hm => le_fth2 hm.2 (hb m hm.2).2)
      omega
    · have c28 : ¬ xi σ 12 0 < nI v := by rw [hE, n_lt (by omega) (by omega)]; exact c
      by_cases d : S i
      · obtain ⟨b1, b2⟩ := hb i d
        refine .inr ⟨max v (b i), ?_, fun q X kk => ?_⟩
        · rw [hv, fth_add (by omega) d (fun q hq => (hb q hq).2)]
        · refine sg_K_farthest_7_fff7 X σ _ _ _ _ _ m i hm c16 c28 (by rw [has1 (by omega), hS]; exact d) rfl (by omega) ?_
          rw [n_s, b1, imax_n (by omega) (by omega)]; exact kk
      · refine .inr ⟨v, ?_, fun q X kk => ?_⟩
        · rw [hv]
          exact fth_congr (fun q => ⟨fun w => ⟨by omega, w.2⟩, fun w => ⟨by
            by_cases e1 : q = i
            · subst e1; exact absurd w.2 d
            · omega, w.2⟩⟩) (fun _ _ => rfl)
        · refine sg_K_farthest_7_fft7 X σ _ _ _ _ _ m hm c16 c28 (by rw [has0' (by omega), hS]; exact d) ?_
          rw [n_s]; exact kk) (by
    intro v hv
    refine ⟨v, ?_, fun q X kk => sg_K_farthest_7_tr X σ _ _ _ _ _ m hm (by rw [hE, n_lt (by omega) (by omega)]; omega) kk⟩
    rw [hv]
    exact fth_congr (fun q => ⟨fun w => w.2, fun w => ⟨by have := (hSe q w).2; omega, w⟩⟩) (fun _ _ => rfl)) p f (by omega) (by
    show f = _
    exact (fth_none (by omega) (fun m hm => by have := (hSe m hm.2).1; omega)).symm)
  subst h1
  refine Ct.of (by decide +kernel) (Nat.le_of_ble_eq_true rfl) (fun K X => ?_)
  exact sg_K_farthest_0_7 X σ _ _ _ m hm (k1 (K, _, _) X ⟨rfl, rfl⟩)
theorem k_reachOfToken (G : GG) {T : Nat → Int} {n e : Nat} {σ : St} (hT : WT T n) (he : e ≤ 60) (hE : xi σ 12 0 = nI e) (hI : ∀ i, i < 60 → xi σ 11 i = sI (T i)) {z : Int} (hz : 0 ≤ z) (hz2 : z ≤ 31) {q m : Nat} (hm : m < xn σ) (hq : q ≤ e) (b : Nat → Nat) (hb : q + 1 ≤ e → xp σ (2 * m + 1) (q + 1) = nI (b (q + 1))) :
    Ct y_K_reachOfToken c_K_reachOfToken 5 (some .int) rm_K_reachOfToken G [.ref (xa σ 22), .int (sI z), .int (nI q), .ref (xa σ (29 + 2 * m))] (WC G σ) (eqp (some (.int (nI (if q < e ∧ T q = z then b (q + 1) else q)))) (WC G σ)) := by
  by_cases c : q < e
  · have hTq := hT.2 q
    have c8 : ¬ xi σ 12 0 ≤ nI q := by rw [hE, n_le (by omega) (by omega)]; omega
    by_cases d : T q = z
    · rw [if_pos ⟨c, d⟩, ← hb (by omega)]
      exact ct_K_reachOfToken_ff G σ _ _ m q (q + 1) hm c8 rfl (by omega) (by rw [hI q (by omega), d]) (n_s q) (by omega)
    · rw [if_neg (fun w => d w.2)]
      exact ct_K_reachOfToken_ft G σ _ _ m q hm c8 rfl (by omega) (by rw [hI q (by omega), sI_eq (by omega) (by omega) (by omega) (by omega)]; exact d)
  · rw [if_neg (fun w => c w.1)]
    exact ct_K_reachOfToken_t G σ _ _ m hm (by rw [hE, n_le (by omega) (by omega)]; omega)
/-- the reaches at position m are those of l from p on -/
def rvA (g : Gr) (T : Nat → Int) (e p : Nat) (σ : St) (m : Nat) (l : List Int) : Prop := ∀ q, p ≤ q → q ≤ e → xp σ (2 * m + 1) q = nI (RR g T e l q)
theorem k_reachOfRow (G : GG) {g : Gr} {T : Nat → Int} {e : Nat} {σ : St} (he : e ≤ 60) (hC : okC g T e σ) {x a p m : Nat} {l : List Int} (hx : x < gR g) (hx16 : x < 16) (ha : a < gA g x) (ha8 : a < 8) (hl : LV g l) (hp : p ≤ e) (hm : m < xn σ) (hm2 : m < 2061) (hK : xi σ 22 0 = nI m) (hPl : xi σ 22 1 = nI p) (hv : rvA g T e p σ m l) :
    Ct y_K_reachOfRow c_K_reachOfRow 4 (some .int) rm_K_reachOfRow G [.ref (xa σ 22), .int (nI (8 * x + a))] (WC G σ) (eqp (some (.int (nI (rch g T e x p l a)))) (WC G σ)) := by
  obtain ⟨o1, o2⟩ := (hC.2 x hx p hp).2 a ha
  have t := k_farthest G he hC.1 (f := rfar g T e (8 * x + a) (gL g (8 * x + a)) p) (p := p) (m := m) hm (mx_le _ _) hp (Run g T e (8 * x + a) (gL g (8 * x + a)) p) o1 (fun i w => ⟨(Run_bd hp w).1, (Run_bd hp w).2.1⟩) (RR g T e l) (fun q w => by
    have := Run_bd hp w
    exact ⟨hv q this.1 this.2.1, (RR_bd l hl q this.2.1).2⟩)
  rw [← o2] at t
  refine ct_K_reachOfRow_ G σ _ m (61 * (8 * x + a) + p) _ hK hm2 hm (by rw [hPl, m61]) (by omega) ?_
  rw [hPl]; exact t
theorem rch_fit {g : Gr} {T : Nat → Int} {e x p a : Nat} {l : List Int} (hl : LV g l) (hp : p ≤ e) : e < rch g T e x p l a ↔ fitA g T e x p l a := by
  have hb := fth_bd (rfar g T e (8 * x + a) (gL g (8 * x + a)) p) (Run g T e (8 * x + a) (gL g (8 * x + a)) p) (RR g T e l) e
  have hf : rfar g T e (8 * x + a) (gL g (8 * x + a)) p ≤ e := mx_le _ _
  unfold rch
  constructor
  · intro h
    rcases fth_in (f := rfar g T e (8 * x + a) (gL g (8 * x + a)) p) (S := Run g T e (8 * x + a) (gL g (8 * x + a)) p) (b := RR g T e l) (e := e) (by omega) with h1 | ⟨m, h1, h2⟩
    · omega
    · exact ⟨m, h1, by omega⟩
  · rintro ⟨q, h1, h2⟩
    have := le_fth2 (f := rfar g T e (8 * x + a) (gL g (8 * x + a)) p) (S := Run g T e (8 * x + a) (gL g (8 * x + a)) p) (b := RR g T e l) (e := e) h1 (by omega)
    omega
theorem rch_bd {g : Gr} {T : Nat → Int} {e x p a : Nat} {l : List Int} (hl : LV g l) (hp : p ≤ e) : p ≤ rch g T e x p l a ∧ rch g T e x p l a ≤ e + 1 := by
  have h1 : p ≤ rfar g T e (8 * x + a) (gL g (8 * x + a)) p := (mx_in hp rowT_self).2
  have hf : rfar g T e (8 * x + a) (gL g (8 * x + a)) p ≤ e := mx_le _ _
  have h2 := le_fth1 (f := rfar g T e (8 * x + a) (gL g (8 * x + a)) p) (S := Run g T e (8 * x + a) (gL g (8 * x + a)) p) (b := RR g T e l) (e := e) (by omega)
  exact ⟨by unfold rch; omega, fth_bd _ _ _ _⟩
theorem k_firstFitting (G : GG) {g : Gr} {T : Nat → Int} {e : Nat} {σ : St} (hw : WF g) (hg : GC g σ) (he : e ≤ 60) (hC : okC g T e σ) {x p m : Nat} {l : List Int} (hx : x < gR g) (hl : LV g l) (hp : p ≤ e) (hm : m < xn σ) (hm2 : m < 2061) (hK : xi σ 22 0 = nI m) (hPl : xi σ 22 1 = nI p) (hv : rvA g T e p σ m l) (hc : chs g T e x p l < gA g x) (hc1 : fitA g T e x p l (chs g T e x p l)) (hc2 : ∀ a, a < chs g T e x p l → ¬ fitA g T e x p l a) :
    Ct y_K_firstFitting c_K_firstFitting 4 (some .int) rm_K_firstFitting G [.ref (xa σ 22), .int (nI x)] (WC G σ) (eqp (some (.int (nI (chs g T e x p l)))) (WC G σ)) := by
  have h16 := hw.r
  have h8 := hw.a x
  obtain ⟨r, h1, k1⟩ := iterE (α := Unit) (β := Nat) (C := fun q : KP => Bd q.1 G q.2.1 "FirstTrees$Walk" c_K_firstFitting 4 (some .int) rm_K_firstFitting) (gA g x - 1) (fun i _ => i ≤ chs g T e x p l)
    (fun q i _ => Lb q.1 G q.2.1 (Qe q.1 G q.2.1 q.2.2 rm_K_firstFitting) 4 13 [(0, .ref (xa σ 22)), (1, .int (nI x)), (2, .int (nI (gA g x - 1))), (3, .int (nI i))] [] (WC G σ) 0 0)
    (fun r => r = chs g T e x p l) (fun q r => q.2.2 (some (.int (nI r))) (WC G σ)) (by
    intro i _ hi hic
    have t := k_reachOfRow G he hC (x := x) (a := i) (p := p) (m := m) (l := l) hx (by omega) (by omega) (by omega) hl hp hm hm2 hK hPl hv
    rw [← n8] at t
    have hb := rch_bd (g := g) (T := T) (x := x) (a := i) hl hp
    have c15 : ¬ nI (gA g x - 1) ≤ nI i := by rw [n_le (by omega) (by omega)]; omega
    by_cases c : fitA g T e x p l i
    · refine .inl ⟨i, ?_, fun q X kk => sg_K_firstFitting_13_ffr X σ _ _ _ _ c15 t (by rw [hC.1, n_le (by omega) (by omega)]; have := (rch_fit hl hp).mpr c; omega) kk⟩
      have : ¬ i < chs g T e x p l := fun w => hc2 i w c
      omega
    · refine .inr ⟨(), ?_, fun q X kk => ?_⟩
      · by_cases e1 : i = chs g T e x p l
        · rw [e1] at c; exact absurd hc1 c
        · omega
      · refine sg_K_firstFitting_13_ft13 X σ _ _ _ _ c15 t (by rw [hC.1, n_le (by omega) (by omega)]; exact Nat.not_lt.mp (fun w => c ((rch_fit hl hp).mp w))) ?_
        rw [n_s]; exact kk) (by
    intro _ hic
    exact ⟨gA g x - 1, by omega, fun q X kk => sg_K_firstFitting_13_tr X σ _ _ _ (by rw [n_le (by omega) (by omega)]; omega) kk⟩) 0 () (Nat.zero_le _) (Nat.zero_le _)
  subst h1
  refine Ct.of (by decide +kernel) (Nat.le_of_ble_eq_true rfl) (fun K X => ?_)
  refine sg_K_firstFitting_0_13 X σ _ x rfl (by omega) ?_
  rw [altC_eq hw hg hx, n_p (by omega)]
  exact k1 (K, _, _) X ⟨rfl, rfl⟩
theorem k_look (G : GG) {g : Gr} {T : Nat → Int} {e : Nat} {σ : St} (hw : WF g) (hg : GC g σ) (he : e ≤ 60) (hC : okC g T e σ) {x p m c : Nat} {l : List Int} (hx : x < gR g) (hl : LV g l) (hp : p ≤ e) (hm : m < xn σ) (hm2 : m < 2061) (hK : xi σ 22 0 = nI m) (hPl : xi σ 22 1 = nI p) (hv : rvA g T e p σ m l) (hc : c < gA g x) :
    Ct y_K_look c_K_look 5 (some .int) rm_K_look G [.ref (xa σ 22), .int (nI x), .int (nI c)] (WC G σ) (eqp (some (.int (nI (lok g T e x p l c)))) (WC G σ)) := by
  have h16 := hw.r
  have h8 := hw.a x
  have hal := altC_eq hw hg hx
  by_cases h1 : gA g x = 1
  · have hz : lok g T e x p l c = 0 := by
      unfold lok
      have : ∀ n, mx (fun v => ∃ a, a < gA g x ∧ a ≠ c ∧ v = min (rch g T e x p l a) e - p + 1) n = 0 := by
        intro n
        induction n with
        | zero => rfl
        | succ n ih => unfold mx; rw [if_neg (fun ⟨a, q1, q2, _⟩ => by omega), ih]
      exact this _
    rw [hz]
    refine Ct.of (by decide +kernel) (Nat.le_of_ble_eq_true rfl) (fun K X => ?_)
    exact sg_K_look_0_fr X σ _ _ x rfl (by omega) (by rw [hal, h1]; rfl) ⟨rfl, rfl⟩
  · obtain ⟨v, ⟨hv1, hv2⟩, k1⟩ := iterL (α := Nat) (C := fun q : KP => Bd q.1 G q.2.1 "FirstTrees$Walk" c_K_look 5 (some .int) rm_K_look) (gA g x) (fun i v => isMx (fun u => u = p ∨ ∃ a, a < i ∧ a ≠ c ∧ u = rch g T e x p l a) v ∧ v ≤ e + 1)
      (fun q i v => Lb q.1 G q.2.1 (Qe q.1 G q.2.1 q.2.2 rm_K_look) 5 22 [(0, .ref (xa σ 22)), (1, .int (nI x)), (2, .int (nI c)), (3, .int (nI v)), (4, .int (nI i))] [] (WC G σ) 0 0) (by
      intro i v hi ⟨hv1, hv2⟩
      have c32 : ¬ altC σ x ≤ nI i := by rw [hal, n_le (by omega) (by omega)]; omega
      by_cases c38 : i = c
      · refine ⟨v, ⟨⟨?_, ?_⟩, hv2⟩, fun q X kk => ?_⟩
        · rcases hv1.1 with w | ⟨a, w1, w2, w3⟩
          · exact .inl w
          · exact .inr ⟨a, by omega, w2, w3⟩
        · rintro u (w | ⟨a, w1, w2, w3⟩)
          · exact hv1.2 u (.inl w)
          · exact hv1.2 u (.inr ⟨a, by omega, w2, w3⟩)
        · refine sg_K_look_22_ft22 X σ _ _ _ _ x rfl (by omega) c32 (by rw [c38]) ?_
          rw [n_s]; exact kk
      · have t := k_reachOfRow G he hC (x := x) (a := i) (p := p) (m := m) (l := l) hx (by omega) (by omega) (by omega) hl hp hm hm2 hK hPl hv
        rw [← n8] at t
        have hb := rch_bd (g := g) (T := T) (x := x) (a := i) hl hp
        refine ⟨max v (rch g T e x p l i), ⟨⟨?_, ?_⟩, by omega⟩, fun q X kk => ?_⟩
        · by_cases w : v ≤ rch g T e x p l i
          · rw [Nat.max_eq_right w]; exact .inr ⟨i, by omega, c38, rfl⟩
          · rw [Nat.max_eq_left (by omega)]
            rcases hv1.1 with w | ⟨a, w1, w2, w3⟩
            · exact .inl w
            · exact .inr ⟨a, by omega, w2, w3⟩
        · rintro u (w | ⟨a, w1, w2, w3⟩)
          · have := hv1.2 u (.inl w); omega
          · by_cases ea : a = i
            · subst ea; omega
            · have := hv1.2 u (.inr ⟨a, by omega, w2, w3⟩); omega
        · refine sg_K_look_22_ff22 X σ _ _ _ _ x _ rfl (by omega) c32 (by rw [n_eq (by omega) (by omega)]; exact c38) t ?_
          rw [n_s, imax_n (by omega) (by omega)]; exact kk) 0 p (Nat.zero_le _) ⟨⟨.inl rfl, by
        rintro u (w | ⟨a, w, _⟩)
        · omega
        · omega⟩, by omega⟩
    have hpv : p ≤ v := hv1.2 p (.inl rfl)
    have hlk : lok g T e x p l c = min v e - p + 1 := by
      unfold lok
      refine mx_eq (by omega) ?_ ?_
      · rcases hv1.1 with w | ⟨a, w1, w2, w3⟩
        · have : ∃ a, a < gA g x ∧ a ≠ c := by
            by_cases c0 : c = 0
            · exact ⟨1, by omega, by omega⟩
            · exact ⟨0, by omega, by omega⟩
          obtain ⟨a, w1, w2⟩ := this
          have hb := rch_bd (g := g) (T := T) (x := x) (a := a) hl hp
          have := hv1.2 _ (.inr ⟨a, w1, w2, rfl⟩)
          exact ⟨a, w1, w2, by rw [show rch g T e x p l a = v from by omega]⟩
        · exact ⟨a, w1, w2, by rw [w3]⟩
      · rintro u _ ⟨a, w1, w2, w3⟩
        have := hv1.2 _ (.inr ⟨a, w1, w2, rfl⟩)
        omega
    rw [hlk]
    refine Ct.of (by decide +kernel) (Nat.le_of_ble_eq_true rfl) (fun K X => ?_)
    refine sg_K_look_0_t22 X σ _ _ x rfl (by omega) (by rw [hal, show (1 : Int32) = nI 1 from rfl, n_eq (by omega) (by omega)]; exact h1) ?_
    rw [hPl]
    refine k1 (K, _, _) X ?_
    refine sg_K_look_22_tr X σ _ _ _ _ x rfl (by omega) (by rw [hal, n_le (by omega) (by omega)]; omega) ?_
    rw [hC.1, hPl, imin_n (by omega) (by omega), n_sub (by omega), n_s]
    exact ⟨rfl, rfl⟩
