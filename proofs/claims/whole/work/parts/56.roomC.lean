/-! the walk's makeRoom, lay, layBottom -/
theorem nd_of {l : List Nat} (h : l.Nodup) : va_nd l = true := by
  induction l with
  | nil => rfl
  | cons a l ih =>
    rw [List.nodup_cons] at h
    show (decide (a ∉ l) && va_nd l) = true
    rw [ih h.2, decide_eq_true h.1]; rfl
theorem WC_len (G : GG) (σ : St) : (WC G σ).length = 28 + 2 * xn σ := by
  rw [WC_app, List.length_append, WC0_len]
  show 28 + (pnd G σ).length = _
  unfold pnd; rw [fl_len]
theorem map_range {α : Type} (l : List α) (r : List α) : (List.range l.length).map (fun i => (l ++ r)[i]?) = l.map some := by
  apply List.ext_getElem?
  intro i
  rw [List.getElem?_map, List.getElem?_map]
  by_cases h : i < l.length
  · rw [List.getElem?_range h, Option.map_some, List.getElem?_append_left h, List.getElem?_eq_getElem h]; rfl
  · rw [List.getElem?_eq_none (by rw [List.length_range]; omega), List.getElem?_eq_none (by omega)]; rfl
theorem k_makeRoom (G : GG) {σ : St} {n : Nat} (hn : xi σ 22 0 = nI n) (h : n < 2061) (hx : n ≤ xn σ) :
    ∃ δ s, ((δ = 0 ∧ s = σ.2 ∧ n < xn σ) ∨ (δ = 1 ∧ s = adS σ.2 ∧ n = xn σ)) ∧ Ct y_K_makeRoom c_K_makeRoom 1 none (rmk rm_K_makeRoom δ) G [.ref (xa σ 22)] (WC G σ) (PA G (xa σ) none s) := by
  by_cases c : n < xn σ
  · refine ⟨0, σ.2, .inl ⟨rfl, rfl, c⟩, ?_⟩
    refine Ct.of (by decide +kernel) (Nat.le_of_ble_eq_true rfl) (fun K X => ?_)
    show Lb K G _ _ 1 0 [(0, .ref (xa σ 22))] [] (WC G σ) 0 0
    refine b_aload_n X d_K_makeRoom_0 0 rfl rfl ?_
    refine b_get X fl_K_13 22 rfl (v := .ref (xa σ 23)) rfl d_K_makeRoom_1 ?_
    refine b_aload_n X d_K_makeRoom_4 0 rfl rfl ?_
    refine b_get X fl_K_48 22 rfl (v := .int (xi σ 22 0)) rfl d_K_makeRoom_5 ?_
    refine b_aald X 23 rfl (by decide) n hn h (xst_lt (σ := σ) c) d_K_makeRoom_8 ?_
    refine b_ifnn X (tgt := 28) d_K_makeRoom_9 (by decide) ?_
    exact b_vret X d_K_makeRoom_28 ⟨rfl, xa σ, fun _ _ => rfl, rfl⟩
  · have hnx : n = xn σ := by omega
    refine ⟨1, adS σ.2, .inr ⟨rfl, rfl, hnx⟩, ?_⟩
    refine Ct.of (by decide +kernel) (Nat.le_of_ble_eq_true rfl) (fun K X => ?_)
    show Lb K G _ _ 1 0 [(0, .ref (xa σ 22))] [] (WC G σ) 0 0
    refine b_aload_n X d_K_makeRoom_0 0 rfl rfl ?_
    refine b_get X fl_K_13 22 rfl (v := .ref (xa σ 23)) rfl d_K_makeRoom_1 ?_
    refine b_aload_n X d_K_makeRoom_4 0 rfl rfl ?_
    refine b_get X fl_K_48 22 rfl (v := .int (xi σ 22 0)) rfl d_K_makeRoom_5 ?_
    refine b_aald X 23 rfl (by decide) n hn h (xst_ge (σ := σ) c) d_K_makeRoom_8 ?_
    refine b_ifnnN X d_K_makeRoom_9 ?_
    refine b_aload_n X d_K_makeRoom_12 0 rfl rfl ?_
    refine b_get X fl_K_13 22 rfl (v := .ref (xa σ 23)) rfl d_K_makeRoom_13 ?_
    refine b_aload_n X d_K_makeRoom_16 0 rfl rfl ?_
    refine b_get X fl_K_48 22 rfl (v := .int (xi σ 22 0)) rfl d_K_makeRoom_17 ?_
    refine b_new X (ci := 8) (fs := [.int 0, .int 0, .null]) in_P tq_P ty_P (ws_t 174 (by decide +kernel) rfl) (ws_t 645 (by decide +kernel) rfl) (ws_t 19 (by decide +kernel) rfl) rfl (by decide) (by decide) (by decide) d_K_makeRoom_20 (fun q => ?_)
    refine b_dup X d_K_makeRoom_23 rfl ?_
    refine b_callIN X cf_P_init ci_P_init rfl mn_K_152 (cm_P_init G q) (As := []) (rest := [.ref q, .int (xi σ 22 0), .ref (xa σ 23)]) (wr := WC G σ) [(WC G σ).length] (List.range (WC G σ).length) ?_ (map_range _ _) (nd_of List.nodup_range) (nd_of (by simp)) ?_ rfl (Nat.le_of_ble_eq_true rfl) ⟨by decide, by decide⟩ ⟨by decide, by decide⟩ rfl d_K_makeRoom_24 (fun v w' hp => ?_)
    · show [((WC G σ) ++ [(q, Sum.inr (8, [.int 0, .int 0, .null]))])[(WC G σ).length]?] = _
      rw [List.getElem?_append_right (Nat.le_refl _), Nat.sub_self]; rfl
    · intro i hi hi2
      have h1 := List.mem_range.mp hi
      have h2 := List.mem_singleton.mp hi2
      omega
    · obtain ⟨rfl, q7, rfl⟩ := hp
      refine Lb.eq (st' := [.ref q, .int (xi σ 22 0), .ref (xa σ 23)]) rfl rfl rfl ?_
      refine b_aast X 23 (WC G σ).length (a := xa σ 23) (n := 2061) (f := xst σ) ?_ (by decide) n hn h (v := q) (vs := [.int 0, .int 0, .ref q7]) ?_ (w' := WC G (adF (xa σ) (xn σ) q q7, adS σ.2)) ?_ d_K_makeRoom_27 ?_
      · rw [List.getElem?_append_left (by rw [WC_len]; omega)]; rfl
      · rw [List.getElem?_append_right (Nat.le_refl _), Nat.sub_self]; rfl
      · rw [List.set_append_left _ _ (by rw [WC_len]; omega)]
        rw [WC_app, List.set_append_left _ _ (by rw [WC0_len]; omega), WC_app G (adF (xa σ) (xn σ) q q7, adS σ.2), pnd_ad G (xa σ) σ.2, WC0_ad G (xa σ) σ.2, hnx, List.append_assoc]
      · exact b_vret X d_K_makeRoom_28 ⟨rfl, _, fun k hk => adF_lo (by omega), rfl⟩
