def sw4 {α : Type} (f : Nat → α) (k : Nat) : α := if k = 24 then f 26 else if k = 25 then f 27 else if k = 26 then f 24 else if k = 27 then f 25 else f k
def swp (σ : St) : St := (sw4 σ.1, sw4 σ.2.1, σ.2.2)
theorem sw4_ge {α : Type} {f : Nat → α} {k : Nat} (h : 28 ≤ k) : sw4 f k = f k := by
  unfold sw4; rw [if_neg (by omega), if_neg (by omega), if_neg (by omega), if_neg (by omega)]
theorem sw4_lt {α : Type} {f : Nat → α} {k : Nat} (h : k < 24) : sw4 f k = f k := by
  unfold sw4; rw [if_neg (by omega), if_neg (by omega), if_neg (by omega), if_neg (by omega)]
theorem pnd_swp (G : GG) (σ : St) : pnd G (swp σ) = pnd G σ := by
  unfold pnd
  congr 1
  funext i
  show ([(sw4 σ.1 (28 + 2 * i), .inr (8, [.int (xp σ (2 * i) 0), .int (xp σ (2 * i) 1), .ref (sw4 σ.1 (29 + 2 * i))])), (sw4 σ.1 (29 + 2 * i), .inl (G.2 0, 61, .inl (xp σ (2 * i + 1))))] : va_W) = _
  rw [sw4_ge (by omega), sw4_ge (by omega)]
theorem xst_swp (σ : St) : xst (swp σ) = xst σ := by
  funext i
  show (if i < xn σ then some (sw4 σ.1 (28 + 2 * i)) else none) = _
  rw [sw4_ge (by omega)]
theorem ndup_of {l : List Nat} (h : l.Nodup) : va_nd l = true := by
  induction l with
  | nil => rfl
  | cons a l ih =>
    rw [List.nodup_cons] at h
    simp only [va_nd, Bool.and_eq_true, decide_eq_true_eq]
    exact ⟨h.1, ih h.2⟩
theorem nd_28 (l : List Nat) (m : Nat) (h : l.Nodup) (hl : ∀ i ∈ l, i < 28) : va_nd (l ++ List.range' 28 m) = true := by
  apply ndup_of
  rw [List.nodup_append]
  refine ⟨h, List.nodup_range', fun a ha b hb => ?_⟩
  have h1 := hl a ha
  rw [List.mem_range'_1] at hb
  omega
theorem tl_28 {α : Type} (A P : List α) (hA : A.length = 28) : (List.range' 28 P.length).map (fun i => (A ++ P)[i]?) = P.map some := by
  apply List.ext_getElem?
  intro i
  rw [List.getElem?_map, List.getElem?_map]
  by_cases c : i < P.length
  · rw [List.getElem?_range' c]
    simp only [Option.map_some]
    rw [List.getElem?_append_right (by omega), hA, show 28 + 1 * i - 28 = i from by omega, List.getElem?_eq_getElem c]
    rfl
  · rw [List.getElem?_eq_none (by rw [List.length_range']; omega), List.getElem?_eq_none (by omega)]; rfl
theorem swap_world {K : KX} {G : GG} {w0 : va_W} {Q : State → Prop} {nL pc cells slots : Nat} {lv : List (Nat × Value)} {st : List Value} (σ : St)
    (k : Lb K G w0 Q nL pc lv st (WC G (swp σ)) cells slots) : Lb K G w0 Q nL pc lv st ((WC G σ).set 0 (xa σ 0, .inr (0, [.ref (xa σ 1), .ref (xa σ 5), .ref (xa σ 10), .ref (xa σ 12), .ref (xa σ 19), .ref (xa σ 22), .ref (xa σ 26), .ref (xa σ 24)]))) cells slots := by
  refine Lb.world ([0, 1, 2, 3, 4, 5, 6, 7, 8, 9, 10, 11, 12, 13, 14, 15, 16, 17, 18, 19, 20, 21, 22, 23, 26, 27, 24, 25] ++ List.range' 28 (pnd G σ).length) (nd_28 _ _ (by decide) (by decide)) ?_ k
  rw [List.map_append]
  have e : WC G (swp σ) = (WC G (swp σ)).take 28 ++ pnd G (swp σ) := rfl
  rw [e, List.map_append, pnd_swp]
  congr 1
  · show _ = List.map some (List.take 28 (WC G (swp σ)))
    unfold WC
    rw [xst_swp]
    rfl
  · exact tl_28 (((WC G σ).set 0 (xa σ 0, .inr (0, [.ref (xa σ 1), .ref (xa σ 5), .ref (xa σ 10), .ref (xa σ 12), .ref (xa σ 19), .ref (xa σ 22), .ref (xa σ 26), .ref (xa σ 24)]))).take 28) (pnd G σ) rfl
def PP (G : GG) (a : Nat) (R : St → Prop) (v : Option Value) : PostT := fun v' w' => v' = v ∧ ∃ σ' : St, xa σ' 0 = a ∧ R σ' ∧ w' = WC G σ'
def PZ (G : GG) (a : Nat) (R : St → Prop) : va_W → Prop := fun w' => ∃ σ' : St, xa σ' 0 = a ∧ R σ' ∧ w' = WC G σ'
abbrev rmz (rm : Room) (δ : Nat) : Room := { frames := rm.frames, cells := 2 * δ + 1, slots := 64 * δ + 6, locals := rm.locals }
theorem k_parse_z (G : GG) (σ : St) (q1 q15 s : Sq) (δ : Nat) (R : St → Prop) (t1 : Ct y_F_mustBeRight c_F_mustBeRight 1 none rm_F_mustBeRight G [.ref (xa σ 0)] (WC G σ) (eqp (none) (WC G (xa σ, q1)))) (t15 : Ct y_C_fill c_C_fill 4 none rm_C_fill G [.ref (xa σ 12), .int (xi (xa σ, q1) 10 0)] (WC G (xa σ, q1)) (eqp (none) (WC G (xa σ, q15)))) (c25 : ¬ (hasB (xl (xa σ, q15) 16 0) (xi (xa σ, q15) 12 0)) = 0)
    (t45 : Ct y_K_derive c_K_derive 4 (some .boolean) (rmk rm_K_derive δ) G [.ref (xa σ 22), .ref (xa σ 26)] (WC G (xa σ, q15)) (PA G (xa σ) (some (.int 0)) s)) (hR : ∀ f, R (f, s)) :
    CtT y_F_parse c_F_parse 2 (some .int) (rmz rm_F_parse δ) G [.ref (xa σ 0)] (WC G σ) "java/lang/UnsupportedOperationException" (PZ G (xa σ 0) R) := by
  refine CtT.of (by decide +kernel) (Nat.le_of_ble_eq_true rfl) (fun K X hex => ?_)
  show Lb K G _ _ 2 0 [(0, .ref (xa σ 0))] [] _ 0 0
  refine b_aload_n X d_F_parse_0 0 rfl rfl ?_
  refine b_dV X cf_F_mustBeRight ci_F_mustBeRight ml_F_148 t1 0 rfl rfl (As := []) (rest := []) rfl (Nat.le_of_ble_eq_true rfl) ⟨Nat.le_of_ble_eq_true rfl, Nat.le_of_ble_eq_true rfl⟩ ⟨Nat.zero_le _, Nat.zero_le _⟩ rfl rfl d_F_parse_1 ?_
  refine b_aload_n X d_F_parse_4 0 rfl rfl ?_
  refine b_get X fl_F_37 0 rfl (v := .ref (xa σ 12)) rfl d_F_parse_5 ?_
  refine b_aload_n X d_F_parse_8 0 rfl rfl ?_
  refine b_get X fl_F_28 0 rfl (v := .ref (xa σ 10)) rfl d_F_parse_9 ?_
  refine b_dV X cf_I_size ci_I_size ml_F_135 (ct_I_size_ G (xa σ, q1) ) 10 rfl rfl (As := []) (rest := [.ref (xa σ 12)]) rfl (Nat.le_of_ble_eq_true rfl) ⟨Nat.le_of_ble_eq_true rfl, Nat.le_of_ble_eq_true rfl⟩ ⟨Nat.zero_le _, Nat.zero_le _⟩ rfl rfl d_F_parse_12 ?_
  refine b_dV X cf_C_fill ci_C_fill ml_F_151 t15 12 rfl rfl (As := [.int (xi (xa σ, q1) 10 0)]) (rest := []) rfl (Nat.le_of_ble_eq_true rfl) ⟨Nat.le_of_ble_eq_true rfl, Nat.le_of_ble_eq_true rfl⟩ ⟨Nat.zero_le _, Nat.zero_le _⟩ rfl rfl d_F_parse_15 ?_
  refine b_aload_n X d_F_parse_18 0 rfl rfl ?_
  refine b_get X fl_F_37 0 rfl (v := .ref (xa σ 12)) rfl d_F_parse_19 ?_
  refine b_dV X cf_C_hasTree ci_C_hasTree ml_F_154 (ct_C_hasTree0 G (xa σ, q15) ) 12 rfl rfl (As := []) (rest := []) rfl (Nat.le_of_ble_eq_true rfl) ⟨Nat.le_of_ble_eq_true rfl, Nat.le_of_ble_eq_true rfl⟩ ⟨Nat.zero_le _, Nat.zero_le _⟩ rfl rfl d_F_parse_22 ?_
  refine b_if_ne X (tgt := 37) d_F_parse_25 (by decide) (fun _ => ?_) (fun h => absurd h c25)
  refine b_aload_n X d_F_parse_37 0 rfl rfl ?_
  refine b_get X fl_F_55 0 rfl (v := .ref (xa σ 22)) rfl d_F_parse_38 ?_
  refine b_aload_n X d_F_parse_41 0 rfl rfl ?_
  refine b_get X fl_F_66 0 rfl (v := .ref (xa σ 26)) rfl d_F_parse_42 ?_
  refine b_callV X cf_K_derive ci_K_derive ml_F_161 t45 22 rfl rfl (As := [.ref (xa σ 26)]) (rest := []) rfl (Nat.le_of_ble_eq_true rfl) ⟨Nat.le_of_ble_eq_true rfl, Nat.le_of_ble_eq_true rfl⟩ ⟨by show 0 + 2 * δ ≤ 2 * δ + 1; omega, by show 0 + 64 * δ ≤ 64 * δ + 6; omega⟩ rfl d_F_parse_45 (fun v' w' hp' => ?_)
  obtain ⟨rfl, f, af, rfl⟩ := hp'
  refine Lb.eq (st' := [.int 0]) rfl rfl rfl ?_
  refine b_if_ne X (tgt := 61) d_F_parse_48 (by decide) (fun h => absurd rfl h) (fun _ => ?_)
  exact b_throw X hex at_UnsupportedOperationException ⟨by decide +kernel, by decide +kernel⟩ (ws_t 377 (by decide +kernel) rfl) (ws_t 378 (by decide +kernel) rfl) (ws_t 13 (by decide +kernel) rfl) (tx := "the first tree has more than 2000 nodes") (List.mem_of_getElem? (i := 10) rfl) ⟨by show 0 + 2 * δ + 1 ≤ 2 * δ + 1; omega, by show 0 + 64 * δ + 6 ≤ 64 * δ + 6; omega, Nat.le_of_ble_eq_true rfl, Nat.le_of_ble_eq_true rfl⟩ d_F_parse_51 d_F_parse_54 d_F_parse_55 d_F_parse_57 d_F_parse_60 ⟨(f, s), af 0 (by decide), hR f, rfl⟩
theorem k_parse_t (G : GG) (σ : St) (q1 q15 s : Sq) (δ : Nat) (b : Int32) (R : St → Prop) (t1 : Ct y_F_mustBeRight c_F_mustBeRight 1 none rm_F_mustBeRight G [.ref (xa σ 0)] (WC G σ) (eqp (none) (WC G (xa σ, q1)))) (t15 : Ct y_C_fill c_C_fill 4 none rm_C_fill G [.ref (xa σ 12), .int (xi (xa σ, q1) 10 0)] (WC G (xa σ, q1)) (eqp (none) (WC G (xa σ, q15)))) (c25 : ¬ (hasB (xl (xa σ, q15) 16 0) (xi (xa σ, q15) 12 0)) = 0)
    (t45 : Ct y_K_derive c_K_derive 4 (some .boolean) (rmk rm_K_derive δ) G [.ref (xa σ 22), .ref (xa σ 26)] (WC G (xa σ, q15)) (PA G (xa σ) (some (.int 1)) s))
    (tw : ∀ f : Nat → Nat, ∃ s' : Sq, R (sw4 f, s') ∧ Ct y_Y_ofWholeInput c_Y_ofWholeInput 3 (some .int) rm_Y_ofWholeInput G [.ref (f 19)] (WC G (swp (f, s))) (eqp (some (.int b)) (WC G (sw4 f, s')))) :
    Ct y_F_parse c_F_parse 2 (some .int) (rmk rm_F_parse δ) G [.ref (xa σ 0)] (WC G σ) (PP G (xa σ 0) R (some (.int b))) := by
  refine Ct.of (by decide +kernel) (Nat.le_of_ble_eq_true rfl) (fun K X => ?_)
  show Lb K G _ _ 2 0 [(0, .ref (xa σ 0))] [] _ 0 0
  refine b_aload_n X d_F_parse_0 0 rfl rfl ?_
  refine b_dV X cf_F_mustBeRight ci_F_mustBeRight ml_F_148 t1 0 rfl rfl (As := []) (rest := []) rfl (Nat.le_of_ble_eq_true rfl) ⟨Nat.le_of_ble_eq_true rfl, Nat.le_of_ble_eq_true rfl⟩ ⟨Nat.zero_le _, Nat.zero_le _⟩ rfl rfl d_F_parse_1 ?_
  refine b_aload_n X d_F_parse_4 0 rfl rfl ?_
  refine b_get X fl_F_37 0 rfl (v := .ref (xa σ 12)) rfl d_F_parse_5 ?_
  refine b_aload_n X d_F_parse_8 0 rfl rfl ?_
  refine b_get X fl_F_28 0 rfl (v := .ref (xa σ 10)) rfl d_F_parse_9 ?_
  refine b_dV X cf_I_size ci_I_size ml_F_135 (ct_I_size_ G (xa σ, q1) ) 10 rfl rfl (As := []) (rest := [.ref (xa σ 12)]) rfl (Nat.le_of_ble_eq_true rfl) ⟨Nat.le_of_ble_eq_true rfl, Nat.le_of_ble_eq_true rfl⟩ ⟨Nat.zero_le _, Nat.zero_le _⟩ rfl rfl d_F_parse_12 ?_
  refine b_dV X cf_C_fill ci_C_fill ml_F_151 t15 12 rfl rfl (As := [.int (xi (xa σ, q1) 10 0)]) (rest := []) rfl (Nat.le_of_ble_eq_true rfl) ⟨Nat.le_of_ble_eq_true rfl, Nat.le_of_ble_eq_true rfl⟩ ⟨Nat.zero_le _, Nat.zero_le _⟩ rfl rfl d_F_parse_15 ?_
  refine b_aload_n X d_F_parse_18 0 rfl rfl ?_
  refine b_get X fl_F_37 0 rfl (v := .ref (xa σ 12)) rfl d_F_parse_19 ?_
  refine b_dV X cf_C_hasTree ci_C_hasTree ml_F_154 (ct_C_hasTree0 G (xa σ, q15) ) 12 rfl rfl (As := []) (rest := []) rfl (Nat.le_of_ble_eq_true rfl) ⟨Nat.le_of_ble_eq_true rfl, Nat.le_of_ble_eq_true rfl⟩ ⟨Nat.zero_le _, Nat.zero_le _⟩ rfl rfl d_F_parse_22 ?_
  refine b_if_ne X (tgt := 37) d_F_parse_25 (by decide) (fun _ => ?_) (fun h => absurd h c25)
  refine b_aload_n X d_F_parse_37 0 rfl rfl ?_
  refine b_get X fl_F_55 0 rfl (v := .ref (xa σ 22)) rfl d_F_parse_38 ?_
  refine b_aload_n X d_F_parse_41 0 rfl rfl ?_
  refine b_get X fl_F_66 0 rfl (v := .ref (xa σ 26)) rfl d_F_parse_42 ?_
  refine b_callV X cf_K_derive ci_K_derive ml_F_161 t45 22 rfl rfl (As := [.ref (xa σ 26)]) (rest := []) rfl (Nat.le_of_ble_eq_true rfl) ⟨Nat.le_of_ble_eq_true rfl, Nat.le_of_ble_eq_true rfl⟩ ⟨by show 0 + 2 * δ ≤ 2 * δ; omega, by show 0 + 64 * δ ≤ 64 * δ; omega⟩ rfl d_F_parse_45 (fun v' w' hp' => ?_)
  obtain ⟨rfl, f, af, rfl⟩ := hp'
  refine Lb.eq (st' := [.int 1]) rfl rfl rfl ?_
  rw [← af 0 (by decide)]
  refine b_if_ne X (tgt := 61) d_F_parse_48 (by decide) (fun _ => ?_) (fun h => absurd h (by decide))
  refine b_aload_n X d_F_parse_61 0 rfl rfl ?_
  refine b_get X fl_F_62 0 rfl (v := .ref (f 24)) rfl d_F_parse_62 ?_
  refine b_astore_n X (lv' := [(0, .ref (f 0)), (1, .ref (f 24))]) d_F_parse_65 (j := 1) rfl (by decide) [1, 0] rfl ?_
  refine b_aload_n X d_F_parse_66 0 rfl rfl ?_
  refine b_aload_n X d_F_parse_67 0 rfl rfl ?_
  refine b_get X fl_F_66 0 rfl (v := .ref (f 26)) rfl d_F_parse_68 ?_
  refine b_put X (ty := .object "FirstTrees$Tree") fl_F_62 pl_F_tree 0 rfl rfl rfl (Nat.le_of_ble_eq_true rfl) rfl d_F_parse_71 ?_
  refine b_aload_n X d_F_parse_74 0 rfl rfl ?_
  refine b_aload_n X d_F_parse_75 1 rfl rfl ?_
  refine b_put X (ty := .object "FirstTrees$Tree") fl_F_66 pl_F_spare 0 rfl rfl rfl (Nat.le_of_ble_eq_true rfl) (w' := (WC G (f, s)).set 0 (f 0, .inr (0, [.ref (f 1), .ref (f 5), .ref (f 10), .ref (f 12), .ref (f 19), .ref (f 22), .ref (f 26), .ref (f 24)]))) rfl d_F_parse_76 ?_
  refine swap_world (f, s) ?_
  obtain ⟨s', hR, t83⟩ := tw f
  refine b_aload_n X d_F_parse_79 0 rfl rfl ?_
  refine b_get X fl_F_46 0 rfl (v := .ref (f 19)) rfl d_F_parse_80 ?_
  refine b_dV X cf_Y_ofWholeInput ci_Y_ofWholeInput ml_F_167 t83 19 rfl rfl (As := []) (rest := []) rfl (Nat.le_of_ble_eq_true rfl) ⟨Nat.le_of_ble_eq_true rfl, Nat.le_of_ble_eq_true rfl⟩ ⟨by show 0 + 2 * δ + 0 ≤ 2 * δ; omega, by show 0 + 64 * δ + 0 ≤ 64 * δ; omega⟩ rfl rfl d_F_parse_83 ?_
  refine Lb.widen (by show 0 + 2 * δ + 0 ≤ 2 * δ; omega) (by show 0 + 64 * δ + 0 ≤ 64 * δ; omega) ?_
  exact b_iret X d_F_parse_86 ⟨rfl, (sw4 f, s'), rfl, hR, rfl⟩
