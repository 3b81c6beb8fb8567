/-! what holds along the walk -/
def Itb (it : Itm) : Prop := ∀ x, x ∈ it → -100 < x.1 → -16 ≤ x.1 ∧ x.1 ≤ 31
def J1 (g : Gr) (T : Nat → Int) (e : Nat) (s : DS) : Prop := s.2.1 ≤ e ∧ LV g (sms s.1) ∧ RR g T e (sms s.1) s.2.1 = e + 1 ∧ Itb s.1 ∧ s.1.length ≤ 8 * s.2.2.1 + 1
theorem chs_sp {g : Gr} {T : Nat → Int} {e p : Nat} {z : Int} {l : List Int} (hz : z < 0) (hp : p ≤ e) (hl : LV g (z :: l)) (h : RR g T e (z :: l) p = e + 1) :
    chs g T e (rl z) p l < gA g (rl z) ∧ fitA g T e (rl z) p l (chs g T e (rl z) p l) ∧ ∀ a, a < chs g T e (rl z) p l → ¬ fitA g T e (rl z) p l a := by
  obtain ⟨m, h1, h2⟩ := (Gd_cons hl hp).mp h
  rcases h1 with ⟨b1, _⟩ | ⟨b1, b2⟩
  · omega
  · obtain ⟨a, ha, hr⟩ := (En_iff (LV_h hl hz) hp m).mp b2
    obtain ⟨k1, k2, k3, k4⟩ := lst_sp (P := fitA g T e (rl z) p l) (gA g (rl z)) 0 ⟨a, by omega, by omega, m, hr, h2⟩
    exact ⟨by unfold chs; omega, k3, fun a ha => k4 a (by omega) ha⟩
theorem itm_len (n : Nat) (l : List Int) : (itm n l).length = l.length := by
  induction l with
  | nil => rfl
  | cons z l ih => show (itm n l).length + 1 = l.length + 1; rw [ih]
theorem sfx_len (g : Gr) (row : Nat) (d : Nat) : ∀ k, (sfx g row d k).length = d := by
  induction d with
  | zero => intro k; rfl
  | succ d ih => intro k; show (sfx g row d (k + 1)).length + 1 = d + 1; rw [ih]
theorem rsy_len (g : Gr) (row : Nat) : (rsy g row 0).length = gL g row := sfx_len _ _ _ _
theorem itm_mem {n : Nat} {l : List Int} {x : Int × Int} (h : x ∈ itm n l) : x.1 ∈ l ∧ x.2 = n := by
  induction l with
  | nil => exact absurd h List.not_mem_nil
  | cons z l ih =>
    rcases List.mem_cons.mp h with h | h
    · rw [h]; exact ⟨List.mem_cons_self, rfl⟩
    · have := ih h; exact ⟨List.mem_cons_of_mem _ this.1, this.2⟩
theorem J1_init {g : Gr} {T : Nat → Int} {e : Nat} {d0 : Nat → Nat → Int} (h0 : 0 < gR g) (h : En g T e 0 0 e) : J1 g T e (itr g T e d0 0) := by
  have hv : LV g (sms [((-1 : Int), (-1 : Int))]) := by
    intro z hz hn
    have : z = -1 := by simpa [sms] using hz
    subst this; exact h0
  refine ⟨Nat.zero_le _, hv, ?_, ?_, Nat.le_refl _⟩
  · exact (Gd_cons hv (Nat.zero_le _)).mpr ⟨e, .inr ⟨by omega, h⟩, (Gd_nil (Nat.le_refl _)).mpr rfl⟩
  · intro x hx _
    have hx : x ∈ [((-1 : Int), (-1 : Int))] := hx
    have : x = (-1, -1) := List.mem_singleton.mp hx
    subst this; exact ⟨by decide, by decide⟩
theorem J1_stp {g : Gr} (hw : WF g) (h2 : NoF (F2 g) (gR g)) {T : Nat → Int} {e : Nat} {s : DS} (h : J1 g T e s) : J1 g T e (stp g T e s) := by
  obtain ⟨it, p, n, d⟩ := s
  cases it with
  | nil => exact h
  | cons x l =>
    obtain ⟨s, v⟩ := x
    obtain ⟨j1, j2, j3, j4, j5⟩ := h
    have j1 : p ≤ e := j1
    have j5 : l.length + 1 ≤ 8 * n + 1 := j5
    have j4' : Itb l := fun x hx => j4 x (List.mem_cons_of_mem _ hx)
    by_cases h1 : s ≤ -100
    · rw [stp_mark h1]
      have j2 : LV g (sms ((s, v) :: l)) := j2
      have j3 : RR g T e (sms ((s, v) :: l)) p = e + 1 := j3
      rw [sms_mark h1] at j2 j3
      exact ⟨j1, j2, j3, j4', by show l.length ≤ 8 * n + 1; omega⟩
    · have j2 : LV g (sms ((s, v) :: l)) := j2
      have j3 : RR g T e (sms ((s, v) :: l)) p = e + 1 := j3
      rw [sms_sym (by omega)] at j2 j3
      by_cases h3 : 0 ≤ s
      · rw [stp_tok h3]
        obtain ⟨m, ⟨b1, b2, b3, b4⟩ | ⟨b1, _⟩, hm⟩ := (Gd_cons j2 j1).mp j3
        · subst b4; exact ⟨b2, LV_t j2, hm, j4', by show l.length ≤ 8 * n + 1; omega⟩
        · omega
      · have hs : s < 0 := by omega
        rw [stp_rul (by omega) hs]
        obtain ⟨c1, c2, c3⟩ := chs_sp hs j1 j2 j3
        generalize chs g T e (rl s) p (sms l) = c at c1 c2 c3 ⊢
        have hx := LV_h j2 hs
        have hlow : ∀ z, z ∈ rsy g (8 * rl s + c) 0 → -100 < z := fun z hz => by have := rsy_low hw z hz; omega
        have e1 : sms (itm n (rsy g (8 * rl s + c) 0) ++ (-100 - (n : Int), (n : Int)) :: l) = rsy g (8 * rl s + c) 0 ++ sms l := by
          rw [sms_itm _ hlow, sms_mark (by omega)]
        refine ⟨j1, ?_, ?_, ?_, ?_⟩
        · show LV g (sms (itm n (rsy g (8 * rl s + c) 0) ++ (-100 - (n : Int), (n : Int)) :: l))
          rw [e1]; exact rsy_LV h2 hx c1 (LV_t j2)
        · show RR g T e (sms (itm n (rsy g (8 * rl s + c) 0) ++ (-100 - (n : Int), (n : Int)) :: l)) p = e + 1
          rw [e1]; exact (Gd_row0 h2 hx c1 (LV_t j2) j1).mp c2
        · intro x hx' hlt
          rcases List.mem_append.mp hx' with q | q
          · exact rsy_low hw _ (itm_mem q).1
          · rcases List.mem_cons.mp q with q | q
            · subst q; exact absurd hlt (by show ¬ (-100 : Int) < -100 - n; omega)
            · exact j4' x q hlt
        · show (itm n (rsy g (8 * rl s + c) 0) ++ (-100 - (n : Int), (n : Int)) :: l).length ≤ 8 * (n + 1) + 1
          rw [List.length_append, itm_len, rsy_len, List.length_cons]
          have := hw.l (8 * rl s + c)
          omega
def sumZ (f : Nat → Int) : Nat → Int
  | 0 => 0
  | n + 1 => sumZ f n + f n
theorem sumZ_congr {f f' : Nat → Int} {n : Nat} (h : ∀ i, i < n → f i = f' i) : sumZ f n = sumZ f' n := by
  induction n with
  | zero => rfl
  | succ n ih => show sumZ f n + f n = sumZ f' n + f' n; rw [ih (fun i hi => h i (by omega)), h n (by omega)]
theorem sumZ_0 {f : Nat → Int} {n : Nat} (h : ∀ i, i < n → f i = 0) : sumZ f n = 0 := by
  induction n with
  | zero => rfl
  | succ n ih => show sumZ f n + f n = 0; rw [ih (fun i hi => h i (by omega)), h n (by omega)]; rfl
theorem sumZ_upd {f f' : Nat → Int} {n w : Nat} (hw : w < n) {a : Int} (h : ∀ i, i < n → i ≠ w → f' i = f i) (h2 : f' w = f w + a) : sumZ f' n = sumZ f n + a := by
  induction n with
  | zero => omega
  | succ n ih =>
    show sumZ f' n + f' n = sumZ f n + f n + a
    by_cases e : w = n
    · subst e; rw [h2, sumZ_congr (f := f') (f' := f) (fun i hi => h i (by omega) (by omega))]; omega
    · rw [ih (by omega) (fun i hi => h i (by omega)), h n (by omega) (by omega)]; omega
def own (g : Gr) (row : Nat) : Nat := tks (rsy g row 0)
def rin (g : Gr) (row : Nat) : Nat := rls (rsy g row 0)
def nrow (d : Nat → Nat → Int) (v : Nat) : Nat := 8 * (d v 0).toNat + (d v 1).toNat
/-- what the closed nodes below v take -/
def chF (d : Nat → Nat → Int) (v : Int) (c : Nat) : Int := if d c 4 = v ∧ d c 3 ≠ -1 then d c 3 - d c 2 else 0
def chS (d : Nat → Nat → Int) (n : Nat) (v : Int) : Int := sumZ (chF d v) n
def mkOk (g : Gr) (n : Nat) (d : Nat → Nat → Int) (q t r : Int) (v : Nat) : Prop := v < n ∧ d v 4 < v ∧ -1 ≤ d v 4 ∧ d v 3 = -1 ∧ q + t = d v 2 + own g (nrow d v) + chS d n v ∧ (rin g (nrow d v) : Int) = d v 5 + r
def fr (g : Gr) (n : Nat) (d : Nat → Nat → Int) : Itm → Int → Int → Int → Int → Prop
  | [], _, _, _, v => v = -1
  | (s, u) :: l, q, t, r, v => u = v ∧ if s ≤ -100 then (0 ≤ v ∧ s = -100 - v ∧ mkOk g n d q t r v.toNat ∧ fr g n d l (d v.toNat 2) 0 0 (d v.toNat 4)) else if 0 ≤ s then fr g n d l q (t + 1) r v else fr g n d l q t (r + 1) v
theorem fr_mk {g : Gr} {n : Nat} {d : Nat → Nat → Int} {s u q t r v : Int} {l : Itm} (hs : s ≤ -100) : fr g n d ((s, u) :: l) q t r v ↔ u = v ∧ (0 ≤ v ∧ s = -100 - v ∧ mkOk g n d q t r v.toNat ∧ fr g n d l (d v.toNat 2) 0 0 (d v.toNat 4)) := by
  show (u = v ∧ if s ≤ -100 then _ else _) ↔ _
  rw [if_pos hs]
theorem fr_tk {g : Gr} {n : Nat} {d : Nat → Nat → Int} {s u q t r v : Int} {l : Itm} (hs : 0 ≤ s) : fr g n d ((s, u) :: l) q t r v ↔ u = v ∧ fr g n d l q (t + 1) r v := by
  show (u = v ∧ if s ≤ -100 then _ else if 0 ≤ s then _ else _) ↔ _
  rw [if_neg (by omega), if_pos hs]
theorem fr_rl {g : Gr} {n : Nat} {d : Nat → Nat → Int} {s u q t r v : Int} {l : Itm} (hs : -100 < s) (h2 : s < 0) : fr g n d ((s, u) :: l) q t r v ↔ u = v ∧ fr g n d l q t (r + 1) v := by
  show (u = v ∧ if s ≤ -100 then _ else if 0 ≤ s then _ else _) ↔ _
  rw [if_neg (by omega), if_neg (by omega)]
theorem fr_tok {g : Gr} {n : Nat} {d : Nat → Nat → Int} (l : Itm) : ∀ q t r v, fr g n d l q (t + 1) r v → fr g n d l (q + 1) t r v := by
  induction l with
  | nil => intro q t r v h; exact h
  | cons x l ih =>
    obtain ⟨s, u⟩ := x
    intro q t r v h
    by_cases h1 : s ≤ -100
    · rw [fr_mk h1] at h ⊢
      obtain ⟨a1, a2, a3, ⟨b1, b2, b3, b4, b5, b6⟩, a5⟩ := h
      exact ⟨a1, a2, a3, ⟨b1, b2, b3, b4, by omega, b6⟩, a5⟩
    · by_cases h2 : 0 ≤ s
      · rw [fr_tk h2] at h ⊢; exact ⟨h.1, ih q (t + 1) r v h.2⟩
      · rw [fr_rl (by omega) (by omega)] at h ⊢; exact ⟨h.1, ih q t (r + 1) v h.2⟩
theorem fr_low {g : Gr} {n n' : Nat} {d d' : Nat → Nat → Int} (hn : n ≤ n') (l : Itm) : ∀ q t r v, (∀ u : Nat, (u : Int) ≤ v → (∀ i, i < 6 → d' u i = d u i) ∧ chS d' n' u = chS d n u) → fr g n d l q t r v → fr g n' d' l q t r v := by
  induction l with
  | nil => intro q t r v _ h; exact h
  | cons x l ih =>
    obtain ⟨s, u⟩ := x
    intro q t r v hd h
    by_cases h1 : s ≤ -100
    · rw [fr_mk h1] at h ⊢
      obtain ⟨a1, a2, a3, ⟨b1, b2, b3, b4, b5, b6⟩, a5⟩ := h
      obtain ⟨w, rfl⟩ : ∃ w : Nat, v = w := ⟨v.toNat, by omega⟩
      simp only [Int.toNat_natCast] at *
      obtain ⟨e1, e2⟩ := hd w (by omega)
      have en : nrow d' w = nrow d w := by unfold nrow; rw [e1 0 (by omega), e1 1 (by omega)]
      refine ⟨a1, a2, a3, ⟨by omega, by rw [e1 4 (by omega)]; exact b2, by rw [e1 4 (by omega)]; exact b3, by rw [e1 3 (by omega)]; exact b4, by rw [en, e1 2 (by omega), e2]; exact b5, by rw [en, e1 5 (by omega)]; exact b6⟩, ?_⟩
      rw [e1 2 (by omega), e1 4 (by omega)]
      exact ih _ _ _ _ (fun u hu => hd u (by omega)) a5
    · by_cases h2 : 0 ≤ s
      · rw [fr_tk h2] at h ⊢; exact ⟨h.1, ih q (t + 1) r v hd h.2⟩
      · rw [fr_rl (by omega) (by omega)] at h ⊢; exact ⟨h.1, ih q t (r + 1) v hd h.2⟩
theorem fr_in {g : Gr} {n : Nat} {d : Nat → Nat → Int} (l : Itm) : ∀ q t r v, fr g n d l q t r v → ∀ x, x ∈ l → x.1 ≤ -100 → -100 - v ≤ x.1 := by
  induction l with
  | nil => intro q t r v _ x hx; exact absurd hx List.not_mem_nil
  | cons x l ih =>
    obtain ⟨s, u⟩ := x
    intro q t r v h y hy hy2
    by_cases h1 : s ≤ -100
    · rw [fr_mk h1] at h
      obtain ⟨a1, a2, a3, ⟨b1, b2, b3, b4, b5, b6⟩, a5⟩ := h
      rcases List.mem_cons.mp hy with w | w
      · subst w; show -100 - v ≤ s; omega
      · have := ih _ _ _ _ a5 y w hy2; omega
    · rcases List.mem_cons.mp hy with w | w
      · subst w; exact absurd hy2 h1
      · by_cases h2 : 0 ≤ s
        · rw [fr_tk h2] at h; exact ih _ _ _ _ h.2 y w hy2
        · rw [fr_rl (by omega) (by omega)] at h; exact ih _ _ _ _ h.2 y w hy2
theorem fr_op {g : Gr} {n : Nat} {d : Nat → Nat → Int} (l : Itm) : ∀ q t r v, fr g n d l q t r v → v = -1 ∨ ∃ w : Nat, v = w ∧ w < n ∧ d w 3 = -1 := by
  induction l with
  | nil => intro q t r v h; exact .inl h
  | cons x l ih =>
    obtain ⟨s, u⟩ := x
    intro q t r v h
    by_cases h1 : s ≤ -100
    · rw [fr_mk h1] at h
      obtain ⟨a1, a2, a3, ⟨b1, b2, b3, b4, b5, b6⟩, a5⟩ := h
      exact .inr ⟨v.toNat, by omega, b1, b4⟩
    · by_cases h2 : 0 ≤ s
      · rw [fr_tk h2] at h; exact ih _ _ _ _ h.2
      · rw [fr_rl (by omega) (by omega)] at h; exact ih _ _ _ _ h.2
theorem upD_at (d : Nat → Nat → Int) (v j : Nat) (z : Int) : upD d v j z v j = z := by unfold upD; rw [if_pos ⟨rfl, rfl⟩]
theorem upD_ne (d : Nat → Nat → Int) {v j u i : Nat} (z : Int) (h : ¬ (u = v ∧ i = j)) : upD d v j z u i = d u i := by unfold upD; rw [if_neg h]
theorem chF_up {d : Nat → Nat → Int} {w : Nat} {z : Int} {v : Int} {c : Nat} (h : c ≠ w ∨ d w 4 ≠ v) : chF (upD d w 3 z) v c = chF d v c := by
  unfold chF
  rw [upD_ne d z (u := c) (i := 4) (by omega), upD_ne d z (u := c) (i := 2) (by omega)]
  by_cases e : c = w
  · subst e
    rw [if_neg (fun q => (h.elim (fun w => w rfl) (fun w => w q.1))), if_neg (fun q => (h.elim (fun w => w rfl) (fun w => w q.1)))]
  · rw [upD_ne d z (by omega)]
theorem chS_up {d : Nat → Nat → Int} {n w : Nat} {z : Int} {v : Int} (h : d w 4 ≠ v) : chS (upD d w 3 z) n v = chS d n v := sumZ_congr (fun c _ => chF_up (.inr h))
theorem fr_close {g : Gr} {n : Nat} {d : Nat → Nat → Int} {w : Nat} (hwn : w < n) (ho : d w 3 = -1) (p : Nat) (l : Itm) : ∀ t r v, d w 4 = v → v < w → fr g n d l (d w 2) t r v → fr g n (upD d w 3 p) l p t r v := by
  induction l with
  | nil => intro t r v _ _ h; exact h
  | cons x l ih =>
    obtain ⟨s, u⟩ := x
    intro t r v hv hlt h
    by_cases h1 : s ≤ -100
    · rw [fr_mk h1] at h ⊢
      obtain ⟨a1, a2, a3, ⟨b1, b2, b3, b4, b5, b6⟩, a5⟩ := h
      obtain ⟨y, rfl⟩ : ∃ w : Nat, v = w := ⟨v.toNat, by omega⟩
      simp only [Int.toNat_natCast] at *
      have e1 : ∀ i, upD d w 3 (p : Int) y i = d y i := fun i => upD_ne d _ (by omega)
      have en : nrow (upD d w 3 (p : Int)) y = nrow d y := by unfold nrow; rw [e1 0, e1 1]
      have es : chS (upD d w 3 (p : Int)) n y = chS d n y + ((p : Int) - d w 2) := by
        refine sumZ_upd hwn (fun i _ hi => chF_up (.inl hi)) ?_
        unfold chF
        rw [upD_ne d _ (u := w) (i := 4) (by omega), upD_ne d _ (u := w) (i := 2) (by omega), upD_at, if_pos ⟨hv, by omega⟩, if_neg (fun q => q.2 ho)]; omega
      refine ⟨a1, a2, a3, ⟨b1, by rw [e1]; exact b2, by rw [e1]; exact b3, by rw [e1]; exact b4, by rw [en, e1, es]; omega, by rw [en, e1]; exact b6⟩, ?_⟩
      rw [e1, e1]
      exact fr_low (Nat.le_refl _) l _ _ _ _ (fun u hu => ⟨fun i _ => upD_ne d _ (by omega), chS_up (by omega)⟩) a5
    · by_cases h2 : 0 ≤ s
      · rw [fr_tk h2] at h ⊢; exact ⟨h.1, ih (t + 1) r v hv hlt h.2⟩
      · rw [fr_rl (by omega) (by omega)] at h ⊢; exact ⟨h.1, ih t (r + 1) v hv hlt h.2⟩
theorem nwD_ne {d : Nat → Nat → Int} {n x c p lk : Nat} {v : Int} {u i : Nat} (h : u ≠ n) (h2 : ¬ ((u : Int) = v ∧ i = 5)) : nwD d n x c p v lk u i = d u i := by unfold nwD; rw [if_neg h, if_neg h2]
theorem nwD_v {d : Nat → Nat → Int} {n x c p lk : Nat} {v : Int} {u : Nat} (h : u ≠ n) (h2 : (u : Int) = v) : nwD d n x c p v lk u 5 = d u 5 + 1 := by unfold nwD; rw [if_neg h, if_pos ⟨h2, rfl⟩]
theorem nwD_0 {d : Nat → Nat → Int} {n x c p lk : Nat} {v : Int} : nwD d n x c p v lk n 0 = x := by unfold nwD; rw [if_pos rfl, if_pos rfl]
theorem nwD_1 {d : Nat → Nat → Int} {n x c p lk : Nat} {v : Int} : nwD d n x c p v lk n 1 = c := by unfold nwD; rw [if_pos rfl, if_neg (by omega), if_pos rfl]
theorem nwD_2 {d : Nat → Nat → Int} {n x c p lk : Nat} {v : Int} : nwD d n x c p v lk n 2 = p := by unfold nwD; rw [if_pos rfl, if_neg (by omega), if_neg (by omega), if_pos rfl]
theorem nwD_3 {d : Nat → Nat → Int} {n x c p lk : Nat} {v : Int} : nwD d n x c p v lk n 3 = -1 := by unfold nwD; rw [if_pos rfl, if_neg (by omega), if_neg (by omega), if_neg (by omega), if_pos rfl]
theorem nwD_4 {d : Nat → Nat → Int} {n x c p lk : Nat} {v : Int} : nwD d n x c p v lk n 4 = v := by unfold nwD; rw [if_pos rfl, if_neg (by omega), if_neg (by omega), if_neg (by omega), if_neg (by omega), if_pos rfl]
theorem nwD_5 {d : Nat → Nat → Int} {n x c p lk : Nat} {v : Int} : nwD d n x c p v lk n 5 = 0 := by unfold nwD; rw [if_pos rfl, if_neg (by omega), if_neg (by omega), if_neg (by omega), if_neg (by omega), if_neg (by omega), if_pos rfl]
theorem nwD_6 {d : Nat → Nat → Int} {n x c p lk : Nat} {v : Int} : nwD d n x c p v lk n 6 = lk := by unfold nwD; rw [if_pos rfl, if_neg (by omega), if_neg (by omega), if_neg (by omega), if_neg (by omega), if_neg (by omega), if_neg (by omega), if_pos rfl]
theorem chS_nw {d : Nat → Nat → Int} {n x c p lk : Nat} {v w : Int} : chS (nwD d n x c p v lk) (n + 1) w = chS d n w := by
  show sumZ _ n + chF _ w n = sumZ _ n
  have h1 : chF (nwD d n x c p v lk) w n = 0 := by unfold chF; rw [nwD_3]; rw [if_neg (fun q => q.2 rfl)]
  rw [h1, Int.add_zero]
  refine sumZ_congr (fun i hi => ?_)
  unfold chF
  rw [nwD_ne (by omega) (by omega), nwD_ne (by omega) (by omega), nwD_ne (by omega) (by omega)]
theorem fr_new {g : Gr} {n : Nat} {d : Nat → Nat → Int} {x c p lk : Nat} (l : Itm) : ∀ (q t r v : Int), v < n → fr g n d l q t (r + 1) v → fr g (n + 1) (nwD d n x c p v lk) l q t r v := by
  induction l with
  | nil => intro q t r v _ h; exact h
  | cons b l ih =>
    obtain ⟨s, u⟩ := b
    intro q t r v hv h
    by_cases h1 : s ≤ -100
    · rw [fr_mk h1] at h ⊢
      obtain ⟨a1, a2, a3, ⟨b1, b2, b3, b4, b5, b6⟩, a5⟩ := h
      obtain ⟨y, rfl⟩ : ∃ w : Nat, v = w := ⟨v.toNat, by omega⟩
      simp only [Int.toNat_natCast] at *
      have e1 : ∀ i, i ≠ 5 → nwD d n x c p (y : Int) lk y i = d y i := fun i hi => nwD_ne (by omega) (by omega)
      have en : nrow (nwD d n x c p (y : Int) lk) y = nrow d y := by unfold nrow; rw [e1 0 (by omega), e1 1 (by omega)]
      refine ⟨a1, a2, a3, ⟨by omega, by rw [e1 4 (by omega)]; exact b2, by rw [e1 4 (by omega)]; exact b3, by rw [e1 3 (by omega)]; exact b4, by rw [en, e1 2 (by omega), chS_nw]; exact b5, by rw [en, nwD_v (by omega) rfl]; omega⟩, ?_⟩
      rw [e1 2 (by omega), e1 4 (by omega)]
      exact fr_low (by omega) l _ _ _ _ (fun u hu => ⟨fun i _ => nwD_ne (by omega) (by omega), chS_nw⟩) a5
    · by_cases h2 : 0 ≤ s
      · rw [fr_tk h2] at h ⊢; exact ⟨h.1, ih q (t + 1) r v hv h.2⟩
      · rw [fr_rl (by omega) (by omega)] at h ⊢; exact ⟨h.1, ih q t (r + 1) v hv h.2⟩
theorem fr_itm {g : Gr} {n : Nat} {d : Nat → Nat → Int} {m : Nat} {l : Itm} (r : List Int) : ∀ q t w, (∀ z, z ∈ r → -100 < z) → fr g n d l q (t + tks r) (w + rls r) m → fr g n d (itm m r ++ l) q t w m := by
  induction r with
  | nil => intro q t w _ h; simpa [tks, rls, itm] using h
  | cons z r ih =>
    intro q t w hl h
    have hz := hl z List.mem_cons_self
    show fr g n d ((z, (m : Int)) :: (itm m r ++ l)) q t w m
    by_cases h2 : 0 ≤ z
    · rw [fr_tk h2]
      refine ⟨rfl, ih q (t + 1) w (fun y hy => hl y (List.mem_cons_of_mem _ hy)) ?_⟩
      simp only [tks, rls, if_pos h2, if_neg (show ¬ z < 0 by omega)] at h
      rw [show t + 1 + (tks r : Int) = t + ((1 + tks r : Nat) : Int) by omega]
      rw [show w + (rls r : Int) = w + ((0 + rls r : Nat) : Int) by omega]
      exact h
    · rw [fr_rl (by omega) (by omega)]
      refine ⟨rfl, ih q t (w + 1) (fun y hy => hl y (List.mem_cons_of_mem _ hy)) ?_⟩
      simp only [tks, rls, if_neg h2, if_pos (show z < 0 by omega)] at h
      rw [show w + 1 + (rls r : Int) = w + ((1 + rls r : Nat) : Int) by omega]
      rw [show t + (tks r : Int) = t + ((0 + tks r : Nat) : Int) by omega]
      exact h
