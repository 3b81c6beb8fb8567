/-! the component's firsts -/
abbrev bS (f : Nat → Int64) : Nat → Nat → Prop := fun y t => tb (f y) t = true
theorem k_symFst (G : GG) {σ : St} {z : Int} (h1 : -16 ≤ z) (h2 : z ≤ 31) : ∃ v, (∀ t, tb v t = true ↔ symFst (bS (xl σ 8)) z t) ∧ Ct y_S_symbolFirst c_S_symbolFirst 2 (some .long) rm_S_symbolFirst G [.ref (xa σ 5), .int (sI z)] (WC G σ) (eqp (some (.long v)) (WC G σ)) := by
  by_cases c : z < 0
  · refine ⟨xl σ 8 (rl z), fun t => ⟨fun h => .inr ⟨c, h⟩, fun h => h.elim (fun q => by omega) (fun q => q.2)⟩, ?_⟩
    exact ct_S_symbolFirst_t G σ _ (rl z) (tok_0 h1 h2 c) (rl_sI c) (by unfold rl; omega)
  · refine ⟨shlL 1 (sI z), fun t => ?_, ct_S_symbolFirst_f G σ _ (by rw [tok_1 h1 h2 c]; decide)⟩
    rw [nN (by omega), tb_shlL (by omega), decide_eq_true_eq]
    constructor
    · intro e; exact .inl ⟨by omega, by omega⟩
    · rintro (e | e) <;> omega
theorem k_rowFst (G : GG) {g : Gr} {σ : St} (hw : WF g) (hg : GC g σ) (hN : ∀ i, tc (xi σ 5 3) i = true ↔ Nul g i) {row : Nat} (hr : row < 128) :
    ∃ v, (∀ t, tb v t = true ↔ rowFst g (bS (xl σ 8)) row 0 t) ∧ Ct y_S_rowFirst c_S_rowFirst 6 (some .long) rm_S_rowFirst G [.ref (xa σ 5), .int (nI row)] (WC G σ) (eqp (some (.long v)) (WC G σ)) := by
  have hl := hw.l row
  obtain ⟨v, h1, h2⟩ := iterE (C := fun q : KP => Bd q.1 G q.2.1 "FirstTrees$Study" c_S_rowFirst 6 (some .long) rm_S_rowFirst) (gL g row) (fun k v => (∀ j, j < k → nulS g (gY g row j)) ∧ ∀ t, tb v t = true ↔ ∃ j, j < k ∧ symFst (bS (xl σ 8)) (gY g row j) t)
    (fun q k v => Lb q.1 G q.2.1 (Qe q.1 G q.2.1 q.2.2 rm_S_rowFirst) 6 5 [(0, .ref (xa σ 5)), (1, .int (nI row)), (2, .long v), (4, .int (nI k))] [] (WC G σ) 0 0)
    (fun v => ∀ t, tb v t = true ↔ rowFst g (bS (xl σ 8)) row 0 t) (fun q v => q.2.2 (some (.long v)) (WC G σ)) (by
    intro k v hk ⟨hn, hv⟩
    have hy := hw.y row k
    have e25 := n8 row k
    have c15 : ¬ xi σ 3 row ≤ nI k := by rw [hg.2.2.1 row hr, n_le (by omega) (by omega)]; omega
    have ek : xi σ 4 (8 * row + k) = sI (gY g row k) := hg.2.2.2 _ (by omega)
    have t := k_symN G (g := g) (σ := σ) hy.1 hy.2
    obtain ⟨u, hu, tu⟩ := k_symFst G (σ := σ) hy.1 hy.2
    rw [← ek] at t tu
    have hs : (gY g row k < 0 ∧ bN σ (rl (gY g row k)) = true) ↔ nulS g (gY g row k) := by unfold nulS; rw [hN]
    have ev : ∀ t, tb (v ||| u) t = true ↔ ∃ j, j < k + 1 ∧ symFst (bS (xl σ 8)) (gY g row j) t := by
      intro t
      rw [tb_or, Bool.or_eq_true, hv, hu]
      constructor
      · rintro (⟨j, h1, h2⟩ | h)
        · exact ⟨j, by omega, h2⟩
        · exact ⟨k, by omega, h⟩
      · rintro ⟨j, h1, h2⟩
        by_cases e : j = k
        · subst e; exact .inr h2
        · exact .inl ⟨j, by omega, h2⟩
    by_cases d : nulS g (gY g row k)
    · refine .inr ⟨_, ⟨?_, ev⟩, fun q X kk => ?_⟩
      · intro j hj
        by_cases e : j = k
        · rw [e]; exact d
        · exact hn j (by omega)
      · refine sg_S_rowFirst_5_ft5 X σ _ _ _ row (8 * row + k) _ _ rfl hr c15 e25 (by omega) tu t (by rw [pI_n0]; exact hs.mpr d) ?_
        rw [n_s]; exact kk
    · refine .inl ⟨v ||| u, ?_, fun q X kk => ?_⟩
      · intro t
        rw [ev]
        constructor
        · rintro ⟨j, h1, h2⟩
          exact ⟨j, by omega, by omega, fun j' _ hj' => hn j' (by omega), h2⟩
        · rintro ⟨j, _, h1, h3, h4⟩
          refine ⟨j, ?_, h4⟩
          exact Classical.byContradiction (fun q => d (h3 k (by omega) (by omega)))
      · exact sg_S_rowFirst_5_ffr X σ _ _ _ row (8 * row + k) _ _ rfl hr c15 e25 (by omega) tu t (by rw [pI_0]; exact fun z => d (hs.mp z)) kk) (by
    intro v ⟨hn, hv⟩
    refine ⟨v, fun t => ?_, fun q X kk => sg_S_rowFirst_5_tr X σ _ _ _ row rfl hr (by rw [hg.2.2.1 row hr, n_le (by omega) (by omega)]; omega) kk⟩
    rw [hv]
    exact ⟨fun ⟨j, h1, h2⟩ => ⟨j, by omega, h1, fun j' _ hj' => hn j' (by omega), h2⟩, fun ⟨j, _, h1, _, h3⟩ => ⟨j, h1, h3⟩⟩) 0 0 (Nat.zero_le _) ⟨fun j hj => by omega, fun i => by rw [tb_0]; simp⟩
  refine ⟨v, h1, ?_⟩
  refine Ct.of (by decide +kernel) (Nat.le_of_ble_eq_true rfl) (fun K X => ?_)
  exact sg_S_rowFirst_0_5 X σ _ (h2 (K, _, _) X ⟨rfl, rfl⟩)
theorem k_findFirsts (G : GG) {g : Gr} {σ : St} (hw : WF g) (hg : GC g σ) (hN : ∀ i, tc (xi σ 5 3) i = true ↔ Nul g i) {o : Nat → Nat} (ho : Topo g o) (hO : ∀ k, k < gR g → xi σ 7 k = nI (o k)) :
    ∃ f, (∀ x, x < gR g → ∀ t, tb (f x) t = true ↔ Fst g x t) ∧ Ct y_S_findFirsts c_S_findFirsts 6 none rm_S_findFirsts G [.ref (xa σ 5)] (WC G σ) (eqp none (WC G (sl σ 8 f))) := by
  have h16 := hw.r
  obtain ⟨f, h1, h2⟩ := iterL (C := fun q : KQ => Bd q.1 G q.2.1 "FirstTrees$Study" c_S_findFirsts 6 none rm_S_findFirsts) (gR g) (fun k f => ∀ j, j < k → ∀ t, tb (f (o j)) t = true ↔ Fst g (o j) t)
    (fun q k f => Lb q.1 G q.2.1 q.2.2 6 2 [(0, .ref (xa σ 5)), (1, .int (nI k))] [] (WC G (sl σ 8 f)) 0 0) (by
    intro k f hk hf
    have hx := ho.1 k hk
    have h8 := hw.a (o k)
    have hg' : GC g (sl σ 8 f) := hg.of rfl rfl rfl rfl
    have c10 : ¬ xi (sl σ 8 f) 1 0 ≤ nI k := by rw [hg'.1, n_le (by omega) (by omega)]; omega
    obtain ⟨v, h3, h4⟩ := iterL (C := fun q : KQ => Bd q.1 G q.2.1 "FirstTrees$Study" c_S_findFirsts 6 none rm_S_findFirsts) (gA g (o k)) (fun a v => ∀ t, tb v t = true ↔ ∃ b, b < a ∧ rowFst g (bS f) (8 * o k + b) 0 t)
      (fun q a v => Lb q.1 G q.2.1 q.2.2 6 25 [(0, .ref (xa σ 5)), (1, .int (nI k)), (2, .int (nI (o k))), (3, .long v), (5, .int (nI a))] [] (WC G (sl σ 8 f)) 0 0) (by
      intro a v ha hv
      have c35 : ¬ altC (sl σ 8 f) (o k) ≤ nI a := by rw [altC_eq hw hg' hx, n_le (by omega) (by omega)]; omega
      obtain ⟨u, hu, t⟩ := k_rowFst G (σ := sl σ 8 f) hw hg' hN (row := 8 * o k + a) (by omega)
      rw [← n8] at t
      rw [xl_sl] at hu
      refine ⟨v ||| u, fun t => ?_, fun q X kk => ?_⟩
      · rw [tb_or, Bool.or_eq_true, hv, hu]
        constructor
        · rintro (⟨b, h1, h2⟩ | h)
          · exact ⟨b, by omega, h2⟩
          · exact ⟨a, by omega, h⟩
        · rintro ⟨b, h1, h2⟩
          by_cases e : b = a
          · subst e; exact .inr h2
          · exact .inl ⟨b, by omega, h2⟩
      · refine sg_S_findFirsts_25_f25 X (sl σ 8 f) _ _ _ _ (o k) u rfl (by omega) c35 t ?_
        rw [n_s]; exact kk) 0 0 (Nat.zero_le _) (fun t => by rw [tb_0]; simp)
    have hv : ∀ t, tb v t = true ↔ Fst g (o k) t := by
      intro t
      rw [h3, Fst_iff hx]
      have cg : ∀ b, b < gA g (o k) → (rowFst g (bS f) (8 * o k + b) 0 t ↔ rowFst g (Fst g) (8 * o k + b) 0 t) := by
        intro b hb
        refine rowFst_congr (fun j _ hj hs hn => ?_)
        obtain ⟨i, hi, e⟩ := ho.2.2 k hk (rl (gY g (8 * o k + b) j)) (Lf_of ⟨b, hb, j, hj, hs, rfl, fun i hi => hn i (by omega) hi⟩)
        rw [← e]; exact hf i hi t
      exact ⟨fun ⟨b, hb, q⟩ => ⟨b, hb, (cg b hb).mp q⟩, fun ⟨b, hb, q⟩ => ⟨b, hb, (cg b hb).mpr q⟩⟩
    refine ⟨vp_updL f (o k) v, fun j hj t => ?_, fun q X kk => ?_⟩
    · by_cases e : o j = o k
      · rw [e, updL_at]; exact hv t
      · rw [updL_ne _ _ e]
        by_cases q : j = k
        · rw [q] at e; exact absurd rfl e
        · exact hf j (by omega) t
    · refine sg_S_findFirsts_2_f25 X (sl σ 8 f) _ k c10 rfl (by omega) ?_
      rw [show xi (sl σ 8 f) 7 k = xi σ 7 k from rfl, hO k hk]
      refine h4 q X ?_
      refine sg_S_findFirsts_25_t2 X (sl σ 8 f) _ _ _ _ (o k) rfl (by omega) (by rw [altC_eq hw hg' hx, n_le (by omega) (by omega)]; omega) ?_
      rw [n_s, wl_sl]; exact kk) 0 (xl σ 8) (Nat.zero_le _) (fun j hj => by omega)
  simp only [sl_id] at h2
  refine ⟨f, fun x hx t => ?_, ?_⟩
  · obtain ⟨k, hk, e⟩ := ho.2.1 x hx
    rw [← e]; exact h1 k hk t
  · refine Ct.of (by decide +kernel) (Nat.le_of_ble_eq_true rfl) (fun K X => ?_)
    refine sg_S_findFirsts_0_2 X σ (h2 (K, _, _) X ?_)
    exact sg_S_findFirsts_2_tr X (sl σ 8 f) _ (by rw [show xi (sl σ 8 f) 1 0 = xi σ 1 0 from rfl, hg.1, n_le (by omega) (by omega)]; omega) ⟨rfl, rfl⟩
theorem k_letIn (G : GG) {g : Gr} {σ : St} (hw : WF g) (hg : GC g σ) (hn : NoF (F2 g) (gR g)) (hN : ∀ i, tc (xi σ 5 3) i = true ↔ Nul g i) (hF : ∀ x, x < gR g → ∀ t, tb (xl σ 8 x) t = true ↔ Fst g x t) (hW : ∀ x, x < gR g → ∀ t, tb (xl σ 9 x) t = true ↔ Fol g x t) {x t : Nat} (hx : x < gR g) (ht : t < 33) :
    ∃ v, (∀ i, tc v i = true ↔ i < gA g x ∧ (rowFst g (Fst g) (8 * x + i) 0 t ∨ (rowN g (Nul g) (8 * x + i) 0 ∧ Fol g x t))) ∧ Ct y_S_letIn c_S_letIn 6 (some .int) rm_S_letIn G [.ref (xa σ 5), .int (nI x), .int (nI t)] (WC G σ) (eqp (some (.int v)) (WC G σ)) := by
  have h16 := hw.r
  have h8 := hw.a x
  obtain ⟨v, h1, h2⟩ := iterL (C := fun q : KP => Bd q.1 G q.2.1 "FirstTrees$Study" c_S_letIn 6 (some .int) rm_S_letIn) (gA g x) (fun a v => ∀ i, tc v i = true ↔ i < a ∧ (rowFst g (Fst g) (8 * x + i) 0 t ∨ (rowN g (Nul g) (8 * x + i) 0 ∧ Fol g x t)))
    (fun q a v => Lb q.1 G q.2.1 (Qe q.1 G q.2.1 q.2.2 rm_S_letIn) 6 5 [(0, .ref (xa σ 5)), (1, .int (nI x)), (2, .int (nI t)), (3, .int v), (4, .int (nI a))] [] (WC G σ) 0 0) (by
    intro a v ha hv
    have c15 : ¬ altC σ x ≤ nI a := by rw [altC_eq hw hg hx, n_le (by omega) (by omega)]; omega
    obtain ⟨u, hu, tu⟩ := k_rowFst G (σ := σ) hw hg hN (row := 8 * x + a) (by omega)
    have tn := k_rowN G (σ := σ) hw hg (row := 8 * x + a) (by omega)
    rw [← n8] at tu tn
    have hu' : tb u t = true ↔ rowFst g (Fst g) (8 * x + a) 0 t := by
      rw [hu]
      exact rowFst_congr (fun j _ hj hs _ => hF _ (rl_lt hn hx ha hj hs) t)
    have hn' : rowN g (fun y => bN σ y = true) (8 * x + a) 0 ↔ rowN g (Nul g) (8 * x + a) 0 := rowN_congr hN
    have yes : (rowFst g (Fst g) (8 * x + a) 0 t ∨ (rowN g (Nul g) (8 * x + a) 0 ∧ Fol g x t)) → ∀ i, tc (v ||| (1 <<< (nI a &&& 31))) i = true ↔ i < a + 1 ∧ (rowFst g (Fst g) (8 * x + i) 0 t ∨ (rowN g (Nul g) (8 * x + i) 0 ∧ Fol g x t)) := by
      intro hy i
      rw [tc_or, tc_sh1 (by omega), Bool.or_eq_true, hv, decide_eq_true_eq]
      constructor
      · rintro (h | h)
        · exact ⟨by omega, h.2⟩
        · rw [h]; exact ⟨by omega, hy⟩
      · rintro ⟨h, q⟩
        by_cases e : i = a
        · exact .inr e
        · exact .inl ⟨by omega, q⟩
    have no : ¬ (rowFst g (Fst g) (8 * x + a) 0 t ∨ (rowN g (Nul g) (8 * x + a) 0 ∧ Fol g x t)) → ∀ i, tc v i = true ↔ i < a + 1 ∧ (rowFst g (Fst g) (8 * x + i) 0 t ∨ (rowN g (Nul g) (8 * x + i) 0 ∧ Fol g x t)) := by
      intro hy i
      rw [hv]
      constructor
      · rintro h; exact ⟨by omega, h.2⟩
      · rintro ⟨h, q⟩
        by_cases e : i = a
        · rw [e] at q; exact absurd q hy
        · exact ⟨by omega, q⟩
    by_cases c1 : rowFst g (Fst g) (8 * x + a) 0 t
    · refine ⟨_, yes (.inl c1), fun q X kk => ?_⟩
      refine sg_S_letIn_5_ft5 X σ _ _ _ _ x u rfl (by omega) c15 tu (by rw [hasB_eq (by omega), if_pos (hu'.mpr c1)]; decide) ?_
      rw [n_s]; exact kk
    · have c36 : hasB u (nI t) = 0 := by rw [hasB_eq (by omega), if_neg (fun q => c1 (hu'.mp q))]
      by_cases c2 : rowN g (Nul g) (8 * x + a) 0
      · by_cases c3 : Fol g x t
        · refine ⟨_, yes (.inr ⟨c2, c3⟩), fun q X kk => ?_⟩
          refine sg_S_letIn_5_ffff5 X σ _ _ _ _ x u _ rfl (by omega) c15 tu c36 tn (by rw [pI_n0]; exact hn'.mpr c2) (by rw [hasB_eq (by omega), if_pos ((hW x hx t).mpr c3)]; decide) ?_
          rw [n_s]; exact kk
        · refine ⟨_, no (fun q => q.elim c1 (fun q => c3 q.2)), fun q X kk => ?_⟩
          refine sg_S_letIn_5_ffft5 X σ _ _ _ _ x u _ rfl (by omega) c15 tu c36 tn (by rw [pI_n0]; exact hn'.mpr c2) (by rw [hasB_eq (by omega), if_neg (fun q => c3 ((hW x hx t).mp q))]) ?_
          rw [n_s]; exact kk
      · refine ⟨_, no (fun q => q.elim c1 (fun q => c2 q.1)), fun q X kk => ?_⟩
        refine sg_S_letIn_5_fft5 X σ _ _ _ _ x u _ rfl (by omega) c15 tu c36 tn (by rw [pI_0]; exact fun q => c2 (hn'.mp q)) ?_
        rw [n_s]; exact kk) 0 0 (Nat.zero_le _) (fun i => by rw [tc_0]; simp)
  refine ⟨v, h1, ?_⟩
  refine Ct.of (by decide +kernel) (Nat.le_of_ble_eq_true rfl) (fun K X => ?_)
  refine sg_S_letIn_0_5 X σ _ _ (h2 (K, _, _) X ?_)
  exact sg_S_letIn_5_tr X σ _ _ _ _ x rfl (by omega) (by rw [altC_eq hw hg hx, n_le (by omega) (by omega)]; omega) ⟨rfl, rfl⟩
