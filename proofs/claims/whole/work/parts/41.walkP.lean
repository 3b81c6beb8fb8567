/-! the walk: items (symbol, node above), a marker below each row; place; number of nodes; their facts -/
noncomputable def lst (P : Nat → Prop) : Nat → Nat → Nat
  | 0, i => i
  | f + 1, i => @ite _ (P i) (Classical.propDecidable _) i (lst P f (i + 1))
theorem lst_sp {P : Nat → Prop} (f : Nat) : ∀ i, (∃ a, i ≤ a ∧ a < i + f ∧ P a) → i ≤ lst P f i ∧ lst P f i < i + f ∧ P (lst P f i) ∧ ∀ a, i ≤ a → a < lst P f i → ¬ P a := by
  induction f with
  | zero => rintro i ⟨a, h1, h2, _⟩; omega
  | succ f ih =>
    rintro i ⟨a, h1, h2, h3⟩
    unfold lst
    by_cases q : P i
    · rw [if_pos q]; exact ⟨by omega, by omega, q, fun b h4 h5 => by omega⟩
    · rw [if_neg q]
      have hne : a ≠ i := fun w => q (w ▸ h3)
      obtain ⟨k1, k2, k3, k4⟩ := ih (i + 1) ⟨a, by omega, by omega, h3⟩
      refine ⟨by omega, by omega, k3, fun b h4 h5 => ?_⟩
      by_cases eb : b = i
      · rw [eb]; exact q
      · exact k4 b (by omega) h5
theorem lst_eq {P : Nat → Prop} {f i v : Nat} (h1 : i ≤ v) (h2 : v < i + f) (h3 : P v) (h4 : ∀ a, i ≤ a → a < v → ¬ P a) : lst P f i = v := by
  obtain ⟨k1, k2, k3, k4⟩ := lst_sp f i ⟨v, h1, h2, h3⟩
  have : ¬ v < lst P f i := fun q => k4 v h1 q h3
  have : ¬ lst P f i < v := fun q => h4 _ k1 q k3
  omega
abbrev Itm : Type := List (Int × Int)
def sms : Itm → List Int
  | [] => []
  | (s, _) :: l => if s ≤ -100 then sms l else s :: sms l
abbrev DS : Type := Itm × Nat × Nat × (Nat → Nat → Int)
/-- from where row a of x, then the rest, comes to the end -/
def fitA (g : Gr) (T : Nat → Int) (e x p : Nat) (l : List Int) (a : Nat) : Prop := ∃ q, Run g T e (8 * x + a) (gL g (8 * x + a)) p q ∧ RR g T e l q = e + 1
noncomputable def chs (g : Gr) (T : Nat → Int) (e x p : Nat) (l : List Int) : Nat := lst (fitA g T e x p l) (gA g x) 0
noncomputable def rch (g : Gr) (T : Nat → Int) (e x p : Nat) (l : List Int) (a : Nat) : Nat := fth (rfar g T e (8 * x + a) (gL g (8 * x + a)) p) (Run g T e (8 * x + a) (gL g (8 * x + a)) p) (RR g T e l) e
noncomputable def lok (g : Gr) (T : Nat → Int) (e x p : Nat) (l : List Int) (c : Nat) : Nat := mx (fun v => ∃ a, a < gA g x ∧ a ≠ c ∧ v = min (rch g T e x p l a) e - p + 1) (e + 1)
def upD (d : Nat → Nat → Int) (v j : Nat) (z : Int) : Nat → Nat → Int := fun u i => if u = v ∧ i = j then z else d u i
def nwD (d : Nat → Nat → Int) (n x c p : Nat) (v : Int) (lk : Nat) : Nat → Nat → Int := fun u i =>
  if u = n then (if i = 0 then (x : Int) else if i = 1 then (c : Int) else if i = 2 then (p : Int) else if i = 3 then -1 else if i = 4 then v else if i = 5 then 0 else if i = 6 then (lk : Int) else d u i)
  else if (u : Int) = v ∧ i = 5 then d u i + 1 else d u i
def itm (n : Nat) : List Int → Itm
  | [] => []
  | z :: l => (z, (n : Int)) :: itm n l
noncomputable def stp (g : Gr) (T : Nat → Int) (e : Nat) : DS → DS
  | ([], p, n, d) => ([], p, n, d)
  | ((s, v) :: l, p, n, d) =>
    if s ≤ -100 then (l, p, n, upD d (-100 - s).toNat 3 p)
    else if 0 ≤ s then (l, p + 1, n, d)
    else (itm n (rsy g (8 * rl s + chs g T e (rl s) p (sms l)) 0) ++ (-100 - (n : Int), (n : Int)) :: l, p, n + 1, nwD d n (rl s) (chs g T e (rl s) p (sms l)) p v (lok g T e (rl s) p (sms l) (chs g T e (rl s) p (sms l))))
noncomputable def itr (g : Gr) (T : Nat → Int) (e : Nat) (d0 : Nat → Nat → Int) : Nat → DS
  | 0 => ([(-1, -1)], 0, 0, d0)
  | k + 1 => stp g T e (itr g T e d0 k)
theorem sms_itm {n : Nat} {l : Itm} (r : List Int) (h : ∀ z, z ∈ r → -100 < z) : sms (itm n r ++ l) = r ++ sms l := by
  induction r with
  | nil => rfl
  | cons z r ih =>
    show (if z ≤ -100 then _ else z :: sms (itm n r ++ l)) = _
    have := h z List.mem_cons_self
    rw [if_neg (by omega), ih (fun y hy => h y (List.mem_cons_of_mem _ hy))]; rfl
theorem rsy_low {g : Gr} (hw : WF g) {row k : Nat} : ∀ z, z ∈ rsy g row k → -16 ≤ z ∧ z ≤ 31 := by
  intro z hz
  obtain ⟨j, _, _, h⟩ := sfx_mem _ k z hz
  have := hw.y row j
  omega
/-- number of nodes when all that is unclosed is made -/
def due (s : DS) : Nat := s.2.2.1 + rls (sms s.1)
theorem stp_mark {g : Gr} {T : Nat → Int} {e p n : Nat} {d : Nat → Nat → Int} {s v : Int} {l : Itm} (h : s ≤ -100) : stp g T e ((s, v) :: l, p, n, d) = (l, p, n, upD d (-100 - s).toNat 3 p) := by
  show (if s ≤ -100 then _ else _) = _
  rw [if_pos h]
theorem stp_tok {g : Gr} {T : Nat → Int} {e p n : Nat} {d : Nat → Nat → Int} {s v : Int} {l : Itm} (h : 0 ≤ s) : stp g T e ((s, v) :: l, p, n, d) = (l, p + 1, n, d) := by
  show (if s ≤ -100 then _ else if 0 ≤ s then _ else _) = _
  rw [if_neg (by omega), if_pos h]
theorem stp_rul {g : Gr} {T : Nat → Int} {e p n : Nat} {d : Nat → Nat → Int} {s v : Int} {l : Itm} (h : -100 < s) (h2 : s < 0) : stp g T e ((s, v) :: l, p, n, d) =
    (itm n (rsy g (8 * rl s + chs g T e (rl s) p (sms l)) 0) ++ (-100 - (n : Int), (n : Int)) :: l, p, n + 1, nwD d n (rl s) (chs g T e (rl s) p (sms l)) p v (lok g T e (rl s) p (sms l) (chs g T e (rl s) p (sms l)))) := by
  show (if s ≤ -100 then _ else if 0 ≤ s then _ else _) = _
  rw [if_neg (by omega), if_neg (by omega)]
theorem sms_mark {s v : Int} {l : Itm} (h : s ≤ -100) : sms ((s, v) :: l) = sms l := by
  show (if s ≤ -100 then _ else _) = _
  rw [if_pos h]
theorem sms_sym {s v : Int} {l : Itm} (h : -100 < s) : sms ((s, v) :: l) = s :: sms l := by
  show (if s ≤ -100 then _ else _) = _
  rw [if_neg (by omega)]
theorem due_stp {g : Gr} (hw : WF g) {T : Nat → Int} {e : Nat} (s : DS) : due s ≤ due (stp g T e s) := by
  obtain ⟨it, p, n, d⟩ := s
  cases it with
  | nil => exact Nat.le_refl _
  | cons x l =>
    obtain ⟨s, v⟩ := x
    by_cases h1 : s ≤ -100
    · rw [stp_mark h1]; unfold due; rw [sms_mark h1]; exact Nat.le_refl _
    · by_cases h2 : 0 ≤ s
      · rw [stp_tok h2]; unfold due; rw [sms_sym (by omega)]; simp only [rls]; rw [if_neg (by omega)]; omega
      · rw [stp_rul (by omega) (by omega)]; unfold due; rw [sms_sym (by omega)]
        simp only [rls]
        rw [if_pos (by omega), sms_itm _ (fun z hz => by have := rsy_low hw z hz; omega), sms_mark (by omega), rls_app]; omega
theorem due_mono {g : Gr} (hw : WF g) {T : Nat → Int} {e : Nat} {d0 : Nat → Nat → Int} (k j : Nat) : due (itr g T e d0 k) ≤ due (itr g T e d0 (k + j)) := by
  induction j with
  | zero => exact Nat.le_refl _
  | succ j ih => exact Nat.le_trans ih (due_stp hw _)
theorem itr_end {g : Gr} {T : Nat → Int} {e : Nat} {d0 : Nat → Nat → Int} {k : Nat} (h : (itr g T e d0 k).1 = []) (j : Nat) : itr g T e d0 (k + j) = itr g T e d0 k := by
  induction j with
  | zero => rfl
  | succ j ih =>
    show stp g T e (itr g T e d0 (k + j)) = _
    rw [ih]
    generalize itr g T e d0 k = s at h
    obtain ⟨it, r⟩ := s
    have h : it = [] := h
    subst h; rfl
theorem itr_uniq {g : Gr} {T : Nat → Int} {e : Nat} {d0 : Nat → Nat → Int} {k j : Nat} (h : (itr g T e d0 k).1 = []) (h' : (itr g T e d0 j).1 = []) : itr g T e d0 k = itr g T e d0 j := by
  by_cases q : k ≤ j
  · have := itr_end h (j - k); rw [show k + (j - k) = j from by omega] at this; exact this.symm
  · have := itr_end h' (k - j); rw [show j + (k - j) = k from by omega] at this; exact this
/-- an end with few nodes and too many due do not go together -/
theorem itr_excl {g : Gr} (hw : WF g) {T : Nat → Int} {e : Nat} {d0 : Nat → Nat → Int} {k j : Nat} (h : (itr g T e d0 k).1 = []) (h2 : (itr g T e d0 k).2.2.1 ≤ 2000) (h' : 2000 < due (itr g T e d0 j)) : False := by
  have hd : due (itr g T e d0 k) ≤ 2000 := by unfold due; rw [h]; exact h2
  by_cases q : j ≤ k
  · have := due_mono hw (T := T) (e := e) (d0 := d0) j (k - j); rw [show j + (k - j) = k from by omega] at this; omega
  · have := itr_end h (j - k); rw [show k + (j - k) = j from by omega] at this; rw [this] at h'; omega
