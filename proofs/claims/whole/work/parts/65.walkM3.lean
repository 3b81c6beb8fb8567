/-! the reference's makeTree -/
/-- the reference stands where the walk stands after k steps -/
def MA (g : Gr) (T : Nat → Int) (e : Nat) (τ : St) (k : Nat) : Prop := pil g T e τ (itr g T e (fun _ _ => 0) k).1 ∧ xi τ 0 6 = nI (itr g T e (fun _ _ => 0) k).1.length ∧ xi τ 0 5 = nI (itr g T e (fun _ _ => 0) k).2.2.1 ∧ MD (itr g T e (fun _ _ => 0) k).2.2.2 (itr g T e (fun _ _ => 0) k).2.2.1 τ ∧ (∃ u, u ≤ 60 ∧ xi τ 0 7 = nI u)
theorem itr_mk {g : Gr} (hw : WF g) {T : Nat → Int} {e : Nat} (k : Nat) : ∀ y, y ∈ (itr g T e (fun _ _ => 0) k).1 → y.1 ≤ -100 → -100 - ((itr g T e (fun _ _ => 0) k).2.2.1 : Int) ≤ y.1 := by
  induction k with
  | zero => intro y hy h; have : y = (-1, -1) := List.mem_singleton.mp hy; subst this; exact absurd h (by decide)
  | succ k ih =>
    intro y hy h
    have hs : itr g T e (fun _ _ => 0) (k + 1) = stp g T e (itr g T e (fun _ _ => 0) k) := rfl
    rw [hs] at hy ⊢
    generalize itr g T e (fun _ _ => 0) k = S at *
    obtain ⟨it, p, n, d⟩ := S
    cases it with
    | nil => exact ih y hy h
    | cons b l =>
      obtain ⟨s, v⟩ := b
      by_cases h1 : s ≤ -100
      · rw [stp_mark h1] at hy ⊢; exact ih y (List.mem_cons_of_mem _ hy) h
      · by_cases h2 : 0 ≤ s
        · rw [stp_tok h2] at hy ⊢; exact ih y (List.mem_cons_of_mem _ hy) h
        · rw [stp_rul (by omega) (by omega)] at hy ⊢
          show -100 - ((n + 1 : Nat) : Int) ≤ y.1
          rcases List.mem_append.mp hy with q | q
          · have := rsy_low hw _ (itm_mem q).1; omega
          · rcases List.mem_cons.mp q with q | q
            · subst q; show -100 - ((n + 1 : Nat) : Int) ≤ -100 - (n : Int); omega
            · have := ih y (List.mem_cons_of_mem _ q) h
              have : -100 - (n : Int) ≤ y.1 := this
              omega
theorem m_makeTree (G : GG) {g : Gr} {T : Nat → Int} {e : Nat} {τ : St} (hw : WF g) (hg : GM g τ) (h0 : 0 < gR g) (h2 : NoF (F2 g) (gR g)) (hT : WT T e) (hI : IM T e τ) (hok : ∀ y, y < gR g → ∀ q, q ≤ e → okM g T e τ y q) (hEn : En g T e 0 0 e) :
    ∃ (r : Int32) (s : Sq), ((r = 1 ∧ ∃ k, (itr g T e (fun _ _ => 0) k).1 = [] ∧ (itr g T e (fun _ _ => 0) k).2.2.1 ≤ 2000 ∧ xi (xa τ, s) 0 5 = nI (itr g T e (fun _ _ => 0) k).2.2.1 ∧ MD (itr g T e (fun _ _ => 0) k).2.2.2 (itr g T e (fun _ _ => 0) k).2.2.1 (xa τ, s)) ∨ (r = 0 ∧ ∃ k, 2000 < due (itr g T e (fun _ _ => 0) k))) ∧ (∃ u, u ≤ 60 ∧ xi (xa τ, s) 0 7 = nI u) ∧ Fm pMN jMN τ (xa τ, s) ∧
      Ct y_M_makeTree c_M_makeTree 3 (some .boolean) rm_M_makeTree G [.ref (xa τ 0)] (WM G τ) (eqp (some (.int r)) (WM G (xa τ, s))) := by
  have h60 := hT.1
  have hJ := fun k => J_itr (d0 := fun _ _ => 0) hw h2 h0 hEn k
  have GMx : ∀ {σ : St}, Fm pMN jMN τ σ → GM g σ := fun h => hg.fm h (by decide) (by decide)
  have IMx : ∀ {σ : St}, Fm pMN jMN τ σ → IM T e σ := fun h => hI.fm h (by decide) (by decide)
  have OKx : ∀ {σ : St}, Fm pMN jMN τ σ → ∀ y, y < gR g → ∀ q, q ≤ e → okM g T e σ y q := fun h y hy q hq => (hok y hy q hq).fm h (by decide)
  -- the first node
  have f0 : Fm pMN jMN τ (wi (wi τ 0 6 0) 0 5 0) := ((Fm.refl pMN jMN τ).z (i := 6) (.inr (.inl rfl)) _).z (i := 5) (.inl rfl) _
  have hJ0 := (hJ 0).1
  obtain ⟨s1, ⟨a1, a2, a3, a4, a5, a6⟩, t1⟩ := m_makeNode G (τ := wi (wi τ 0 6 0) 0 5 0) (z := -1) (v := -1) (it := []) (p := 0) (n := 0) (d := fun _ _ => 0) hw (GMx f0) h2 hT (IMx f0) (OKx f0) ⟨by decide, by decide⟩ (by decide) (by decide) (Nat.zero_le _) hJ0.2.1 hJ0.2.2.1 (fun x hx => absurd hx List.not_mem_nil) (fun x hx => absurd hx List.not_mem_nil) trivial rfl (by decide) rfl (by decide) (fun u hu => absurd hu (Nat.not_lt_zero _))
  have a6 : Fm pMN jMN τ (xa τ, s1) := f0.trans a6
  have e1 : itr g T e (fun _ _ => 0) 1 = (itm 0 (rsy g (8 * rl (-1) + chs g T e (rl (-1)) 0 (sms [])) 0) ++ (-100 - ((0 : Nat) : Int), ((0 : Nat) : Int)) :: [], 0, 0 + 1, nwD (fun _ _ => 0) 0 (rl (-1)) (chs g T e (rl (-1)) 0 (sms [])) 0 (-1) (lok g T e (rl (-1)) 0 (sms []) (chs g T e (rl (-1)) 0 (sms [])))) := by
    show stp g T e ([(-1, -1)], 0, 0, fun _ _ => 0) = _
    exact stp_rul (by decide) (by decide)
  have hMA1 : MA g T e (xa τ, s1) 1 := by
    unfold MA
    rw [e1]
    exact ⟨a1, a2, a3, a4, a5⟩
  -- the loop
  obtain ⟨⟨s, k⟩, ⟨b1, b2, b3⟩, b4, k1⟩ := iterW (α := Sq × Nat) (C := fun q : KP => Bd q.1 G q.2.1 "FirstTreesModel" c_M_makeTree 3 (some .boolean) rm_M_makeTree) (fun b => MA g T e (xa τ, b.1) b.2 ∧ (itr g T e (fun _ _ => 0) b.2).2.2.1 ≤ 2000 ∧ Fm pMN jMN τ (xa τ, b.1))
    (fun q b => Lb q.1 G q.2.1 (Qe q.1 G q.2.1 q.2.2 rm_M_makeTree) 3 19 [(0, .ref (xa τ 0)), (1, .int (nI (itr g T e (fun _ _ => 0) b.2).2.1))] [] (WM G (xa τ, b.1)) 0 0)
    (fun b => (itr g T e (fun _ _ => 0) b.2).1 = [] ∨ ((itr g T e (fun _ _ => 0) b.2).2.2.1 = 2000 ∧ ∃ z v l, (itr g T e (fun _ _ => 0) b.2).1 = (z, v) :: l ∧ -100 < z ∧ z < 0))
    (fun b => 9 * (2000 - (itr g T e (fun _ _ => 0) b.2).2.2.1) + (itr g T e (fun _ _ => 0) b.2).1.length) (by
    intro ⟨s, k⟩ ⟨b1, b2, b3⟩ hP
    have b1 : MA g T e (xa τ, s) k := b1
    have b2 : (itr g T e (fun _ _ => 0) k).2.2.1 ≤ 2000 := b2
    have b3 : Fm pMN jMN τ (xa τ, s) := b3
    have hP : ¬ ((itr g T e (fun _ _ => 0) k).1 = [] ∨ ((itr g T e (fun _ _ => 0) k).2.2.1 = 2000 ∧ ∃ z v l, (itr g T e (fun _ _ => 0) k).1 = (z, v) :: l ∧ -100 < z ∧ z < 0)) := hP
    obtain ⟨⟨j1, j2, j3, j4, j5⟩, hJ2⟩ := hJ k
    have hmk := itr_mk hw (T := T) (e := e) k
    have hstp : itr g T e (fun _ _ => 0) (k + 1) = stp g T e (itr g T e (fun _ _ => 0) k) := rfl
    unfold MA at b1
    generalize hS : itr g T e (fun _ _ => 0) k = S at *
    obtain ⟨it, p, n, d⟩ := S
    obtain ⟨c1, c2, c3, c4, c5⟩ := b1
    cases it with
    | nil => exact absurd (.inl rfl) hP
    | cons y l =>
      obtain ⟨z, v⟩ := y
      have j1 : p ≤ e := j1
      have j5 : l.length + 1 ≤ 8 * n + 1 := j5
      have b2 : n ≤ 2000 := b2
      have c2 : xi (xa τ, s) 0 6 = nI (l.length + 1) := c2
      have c3 : xi (xa τ, s) 0 5 = nI n := c3
      have c4 : MD d n (xa τ, s) := c4
      obtain ⟨c11, c12, c13, c14⟩ := c1
      have c23 : ¬ xi (xa τ, s) 0 6 ≤ 0 := by rw [c2, show (0 : Int32) = nI 0 from rfl, n_le (by omega) (by omega)]; omega
      have e44 : xi (xa τ, s) 0 6 - 1 = nI l.length := by rw [c2, n_p (by omega)]; rfl
      have j4' : Itb l := fun x hx => j4 x (List.mem_cons_of_mem _ hx)
      have hzlo : -2100 ≤ z := by
        by_cases q : z ≤ -100
        · have := hmk (z, v) List.mem_cons_self q
          have : -100 - (n : Int) ≤ z := this
          omega
        · omega
      have hz31 : z ≤ 31 := by
        by_cases q : z ≤ -100
        · omega
        · have := j4 (z, v) List.mem_cons_self (show -100 < z by omega)
          exact this.2
      by_cases h1 : z ≤ -100
      · have hnx : itr g T e (fun _ _ => 0) (k + 1) = (l, p, n, upD d (-100 - z).toNat 3 p) := by rw [hstp, stp_mark h1]
        obtain ⟨w, hw1⟩ : ∃ w : Nat, -100 - z = w := ⟨(-100 - z).toNat, by omega⟩
        have hw2 : (-100 - z).toNat = w := by omega
        have hwn : w < n := by
          obtain ⟨⟨v', hv1, hv2⟩, _⟩ := hJ2
          have hv2 : fr g n d ((z, v) :: l) p 0 0 v' := hv2
          rw [fr_mk h1] at hv2
          have hv1 : v' < n := hv1
          have := hv2.2.2.1
          omega
        rw [hw2] at hnx
        refine ⟨((wi (wi (xa τ, s) 0 6 (nI l.length)) 17 (7 * w + 3) (nI p)).2, k + 1), ⟨?_, ?_, ?_⟩, ?_, fun q X kk => ?_⟩
        · unfold MA
          rw [hnx]
          refine ⟨pil_c (τ := (xa τ, s)) l (fun j _ => ⟨rfl, rfl, rfl⟩) c14, rfl, c3, ?_, c5⟩
          intro u hu j hj
          show upd (xi (xa τ, s) 17) (7 * w + 3) (nI p) (7 * u + j) = sI (upD d w 3 p u j)
          by_cases q : u = w ∧ j = 3
          · obtain ⟨rfl, rfl⟩ := q
            rw [upd_at, upD_at]; rfl
          · rw [upd_ne _ _ (fun q2 => q ⟨by omega, by omega⟩), upD_ne _ _ q]; exact c4 u hu j hj
        · show (itr g T e (fun _ _ => 0) (k + 1)).2.2.1 ≤ 2000
          rw [hnx]; exact b2
        · exact (b3.z (i := 6) (.inr (.inl rfl)) _).i (k := 17) (.inl rfl) (by decide) _ _
        · show 9 * (2000 - (itr g T e (fun _ _ => 0) (k + 1)).2.2.1) + (itr g T e (fun _ _ => 0) (k + 1)).1.length < 9 * (2000 - n) + (l.length + 1)
          rw [hnx]; show 9 * (2000 - n) + l.length < 9 * (2000 - n) + (l.length + 1); omega
        · have kk : Lb q.1 G q.2.1 (Qe q.1 G q.2.1 q.2.2 rm_M_makeTree) 3 19 [(0, .ref (xa τ 0)), (1, .int (nI (itr g T e (fun _ _ => 0) (k + 1)).2.1))] [] (WM G (wi (wi (xa τ, s) 0 6 (nI l.length)) 17 (7 * w + 3) (nI p))) 0 0 := kk
          rw [hnx] at kk
          refine sg_M_makeTree_19_ff19 X (xa τ, s) _ l.length (7 * w + 3) c23 e44 (by omega) (by rw [c11, show (-100 : Int32) = sI (-100) from rfl, sI_lt (by omega) (by omega) (by omega) (by omega)]; omega) (by rw [c11, show (-100 : Int32) = sI (-100) from rfl, sI_sub, hw1]; exact m7' w 3) (by omega) ?_
          rw [e44]; exact kk
      · have hzb := j4 (z, v) List.mem_cons_self (show -100 < z by omega)
        have hzb : -16 ≤ z ∧ z ≤ 31 := hzb
        have c49 : (-100 : Int32) < xi (xa τ, s) 18 l.length := by rw [c11, show (-100 : Int32) = sI (-100) from rfl, sI_lt (by omega) (by omega) (by omega) (by omega)]; omega
        by_cases h3 : 0 ≤ z
        · have hnx : itr g T e (fun _ _ => 0) (k + 1) = (l, p + 1, n, d) := by rw [hstp, stp_tok h3]
          refine ⟨((wi (xa τ, s) 0 6 (nI l.length)).2, k + 1), ⟨?_, ?_, b3.z (i := 6) (.inr (.inl rfl)) _⟩, ?_, fun q X kk => ?_⟩
          · unfold MA
            rw [hnx]
            exact ⟨pil_c (τ := (xa τ, s)) l (fun j _ => ⟨rfl, rfl, rfl⟩) c14, rfl, c3, c4, c5⟩
          · show (itr g T e (fun _ _ => 0) (k + 1)).2.2.1 ≤ 2000
            rw [hnx]; exact b2
          · show 9 * (2000 - (itr g T e (fun _ _ => 0) (k + 1)).2.2.1) + (itr g T e (fun _ _ => 0) (k + 1)).1.length < 9 * (2000 - n) + (l.length + 1)
            rw [hnx]; show 9 * (2000 - n) + l.length < 9 * (2000 - n) + (l.length + 1); omega
          · have kk : Lb q.1 G q.2.1 (Qe q.1 G q.2.1 q.2.2 rm_M_makeTree) 3 19 [(0, .ref (xa τ 0)), (1, .int (nI (itr g T e (fun _ _ => 0) (k + 1)).2.1))] [] (WM G (wi (xa τ, s) 0 6 (nI l.length))) 0 0 := kk
            rw [hnx] at kk
            refine sg_M_makeTree_19_ftf19 X (xa τ, s) _ l.length c23 e44 (by omega) c49 (by rw [c11]; exact isr_0 hzb.1 hzb.2 (by omega)) ?_
            rw [e44, n_s]; exact kk
        · have hz : z < 0 := by omega
          have hn : n ≠ 2000 := fun q => hP (.inr ⟨q, z, v, l, rfl, by omega, hz⟩)
          have j2 : LV g (sms ((z, v) :: l)) := j2
          have j3 : RR g T e (sms ((z, v) :: l)) p = e + 1 := j3
          rw [sms_sym (by omega)] at j2 j3
          have hv : -1 ≤ v ∧ v < n := by
            obtain ⟨⟨v', hv1, hv2⟩, _⟩ := hJ2
            have hv2 : fr g n d ((z, v) :: l) p 0 0 v' := hv2
            have hv1 : v' < n := hv1
            rw [fr_rl (by omega) hz] at hv2
            rcases fr_op l _ _ _ _ hv2.2 with q | ⟨q, q1, _⟩
            · have := hv2.1; omega
            · have := hv2.1; omega
          have f4 : Fm pMN jMN τ (wi (xa τ, s) 0 6 (nI l.length)) := b3.z (i := 6) (.inr (.inl rfl)) _
          obtain ⟨s', ⟨d1, d2, d3, d4, d5, d6⟩, t⟩ := m_makeNode G (τ := wi (xa τ, s) 0 6 (nI l.length)) (z := z) (v := v) (it := l) (p := p) (n := n) (d := d) hw (GMx f4) h2 hT (IMx f4) (OKx f4) ⟨hzb.1, hz⟩ hv.1 hv.2 j1 j2 j3 j4' (fun y hy => by
            by_cases q : y.1 ≤ -100
            · have := hmk y (List.mem_cons_of_mem _ hy) q
              have : -100 - (n : Int) ≤ y.1 := this
              omega
            · omega) (pil_c (τ := (xa τ, s)) l (fun j _ => ⟨rfl, rfl, rfl⟩) c14) rfl (by omega) c3 (by omega) c4
          have hnx : itr g T e (fun _ _ => 0) (k + 1) = (itm n (rsy g (8 * rl z + chs g T e (rl z) p (sms l)) 0) ++ (-100 - (n : Int), (n : Int)) :: l, p, n + 1, nwD d n (rl z) (chs g T e (rl z) p (sms l)) p v (lok g T e (rl z) p (sms l) (chs g T e (rl z) p (sms l)))) := by rw [hstp, stp_rul (by omega) hz]
          have hll := hw.l (8 * rl z + chs g T e (rl z) p (sms l))
          refine ⟨(s', k + 1), ⟨?_, ?_, f4.trans d6⟩, ?_, fun q X kk => ?_⟩
          · unfold MA
            rw [hnx]
            exact ⟨d1, d2, d3, d4, d5⟩
          · show (itr g T e (fun _ _ => 0) (k + 1)).2.2.1 ≤ 2000
            rw [hnx]; show n + 1 ≤ 2000; omega
          · show 9 * (2000 - (itr g T e (fun _ _ => 0) (k + 1)).2.2.1) + (itr g T e (fun _ _ => 0) (k + 1)).1.length < 9 * (2000 - n) + (l.length + 1)
            rw [hnx]
            show 9 * (2000 - (n + 1)) + (itm n (rsy g (8 * rl z + chs g T e (rl z) p (sms l)) 0) ++ (-100 - (n : Int), (n : Int)) :: l).length < 9 * (2000 - n) + (l.length + 1)
            rw [List.length_append, itm_len, rsy_len, List.length_cons]; omega
          · have kk : Lb q.1 G q.2.1 (Qe q.1 G q.2.1 q.2.2 rm_M_makeTree) 3 19 [(0, .ref (xa τ 0)), (1, .int (nI (itr g T e (fun _ _ => 0) (k + 1)).2.1))] [] (WM G (xa τ, s')) 0 0 := kk
            rw [hnx] at kk
            refine sg_M_makeTree_19_fttt19 X (xa τ, s) _ l.length s' c23 e44 (by omega) c49 (by rw [c11, isr_1 hzb.1 hzb.2 hz]; decide) (by rw [c3, show (2000 : Int32) = nI 2000 from rfl, n_eq (by omega) (by omega)]; exact hn) (by rw [c11, c12, rl_sI hz, e44]; exact t) kk) (s1, 1) ⟨hMA1, by show (itr g T e (fun _ _ => 0) 1).2.2.1 ≤ 2000; rw [e1]; show 0 + 1 ≤ 2000; omega, a6⟩
  have b1 : MA g T e (xa τ, s) k := b1
  have b2 : (itr g T e (fun _ _ => 0) k).2.2.1 ≤ 2000 := b2
  have b3 : Fm pMN jMN τ (xa τ, s) := b3
  have hp1 : (itr g T e (fun _ _ => 0) 1).2.1 = 0 := by rw [e1]
  obtain ⟨c1, c2, c3, c4, c5⟩ := b1
  have start : ∀ (K : KX) (post : PostT) (X : Bd K G (WM G τ) "FirstTreesModel" c_M_makeTree 3 (some .boolean) rm_M_makeTree), Lb K G (WM G τ) (Qe K G (WM G τ) post rm_M_makeTree) 3 19 [(0, .ref (xa τ 0)), (1, .int (nI (itr g T e (fun _ _ => 0) k).2.1))] [] (WM G (xa τ, s)) 0 0 → Lb K G (WM G τ) (Qe K G (WM G τ) post rm_M_makeTree) 3 0 [(0, .ref (xa τ 0))] [] (WM G τ) 0 0 := by
    intro K post X kk
    refine sg_M_makeTree_0_19 X τ s1 t1 ?_
    have := k1 (K, WM G τ, post) X kk
    have this : Lb K G (WM G τ) (Qe K G (WM G τ) post rm_M_makeTree) 3 19 [(0, .ref (xa τ 0)), (1, .int (nI (itr g T e (fun _ _ => 0) 1).2.1))] [] (WM G (xa τ, s1)) 0 0 := this
    rw [hp1] at this
    exact this
  rcases b4 with b4 | ⟨b4, z, v, l, b5, b6, b7⟩
  · have b4 : (itr g T e (fun _ _ => 0) k).1 = [] := b4
    refine ⟨1, s, .inl ⟨rfl, k, b4, b2, c3, c4⟩, c5, b3, ?_⟩
    refine Ct.of (by decide +kernel) (Nat.le_of_ble_eq_true rfl) (fun K X => ?_)
    refine start K _ X ?_
    exact sg_M_makeTree_19_tr X (xa τ, s) _ (by rw [c2, b4]; decide) ⟨rfl, rfl⟩
  · have b4 : (itr g T e (fun _ _ => 0) k).2.2.1 = 2000 := b4
    have b5 : (itr g T e (fun _ _ => 0) k).1 = (z, v) :: l := b5
    have j4 := (hJ k).1.2.2.2.1
    have j5 := (hJ k).1.2.2.2.2
    have hzb : -16 ≤ z ∧ z ≤ 31 := j4 (z, v) (by rw [b5]; exact List.mem_cons_self) b6
    rw [b5] at c1 c2 j5
    rw [b4] at j5 c3
    have j5 : l.length + 1 ≤ 8 * 2000 + 1 := j5
    have c2 : xi (xa τ, s) 0 6 = nI (l.length + 1) := c2
    have e44 : xi (xa τ, s) 0 6 - 1 = nI l.length := by rw [c2, n_p (by omega)]; rfl
    refine ⟨0, (wi (xa τ, s) 0 6 (xi (xa τ, s) 0 6 - 1)).2, .inr ⟨rfl, k, ?_⟩, c5, b3.z (i := 6) (.inr (.inl rfl)) _, ?_⟩
    · unfold due; rw [b4, b5, sms_sym b6]; simp only [rls, if_pos b7]; omega
    · refine Ct.of (by decide +kernel) (Nat.le_of_ble_eq_true rfl) (fun K X => ?_)
      refine start K _ X ?_
      exact sg_M_makeTree_19_fttfr X (xa τ, s) _ l.length (by rw [c2, show (0 : Int32) = nI 0 from rfl, n_le (by omega) (by omega)]; omega) e44 (by omega) (by rw [c1.1, show (-100 : Int32) = sI (-100) from rfl, sI_lt (by omega) (by omega) (by omega) (by omega)]; omega) (by rw [c1.1, isr_1 hzb.1 hzb.2 b7]; decide) c3 ⟨rfl, rfl⟩
