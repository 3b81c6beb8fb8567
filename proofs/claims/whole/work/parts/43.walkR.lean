def Cl (g : Gr) (n : Nat) (d : Nat → Nat → Int) : Prop := ∀ u, u < n → d u 3 ≠ -1 → d u 3 = d u 2 + own g (nrow d u) + chS d n u ∧ d u 5 = rin g (nrow d u) ∧ ∀ c, c < n → d c 4 = u → d c 3 ≠ -1
def Op (n : Nat) (d : Nat → Nat → Int) (it : Itm) : Prop := ∀ u : Nat, u < n → d u 3 = -1 → (-100 - (u : Int), (u : Int)) ∈ it
def Rg (g : Gr) (e n : Nat) (d : Nat → Nat → Int) : Prop := ∀ u : Nat, u < n → (-1 ≤ d u 4 ∧ d u 4 < u) ∧ (∃ x : Nat, d u 0 = x ∧ x < gR g ∧ ∃ a : Nat, d u 1 = a ∧ a < gA g x) ∧ (0 ≤ d u 2 ∧ d u 2 ≤ e) ∧ (-1 ≤ d u 3 ∧ d u 3 ≤ e) ∧ (0 ≤ d u 6 ∧ d u 6 ≤ e + 1)
def J2 (g : Gr) (e : Nat) (s : DS) : Prop := (∃ v : Int, v < s.2.2.1 ∧ fr g s.2.2.1 s.2.2.2 s.1 s.2.1 0 0 v) ∧ Cl g s.2.2.1 s.2.2.2 ∧ Op s.2.2.1 s.2.2.2 s.1 ∧ Rg g e s.2.2.1 s.2.2.2
theorem J2_init {g : Gr} {T : Nat → Int} {e : Nat} {d0 : Nat → Nat → Int} : J2 g e (itr g T e d0 0) := by
  refine ⟨⟨-1, by show (-1 : Int) < (0 : Nat); omega, ?_⟩, fun u hu => absurd hu (Nat.not_lt_zero _), fun u hu => absurd hu (Nat.not_lt_zero _), fun u hu => absurd hu (Nat.not_lt_zero _)⟩
  show fr g 0 d0 [(-1, -1)] 0 0 0 (-1)
  rw [fr_rl (by omega) (by omega)]
  exact ⟨rfl, rfl⟩
theorem J2_stp {g : Gr} (hw : WF g) {T : Nat → Int} {e : Nat} {s : DS} (h1 : J1 g T e s) (h : J2 g e s) : J2 g e (stp g T e s) := by
  obtain ⟨it, p, n, d⟩ := s
  cases it with
  | nil => exact h
  | cons x l =>
    obtain ⟨s, v⟩ := x
    obtain ⟨⟨v', hv', hf⟩, hC, hO, hR⟩ := h
    have hv' : v' < n := hv'
    have hf : fr g n d ((s, v) :: l) p 0 0 v' := hf
    have hC : Cl g n d := hC
    have hO : Op n d ((s, v) :: l) := hO
    have hR : Rg g e n d := hR
    obtain ⟨i1, i2, i3, i4, i5⟩ := h1
    have i1 : p ≤ e := i1
    by_cases q1 : s ≤ -100
    · rw [stp_mark q1]
      rw [fr_mk q1] at hf
      obtain ⟨a1, a2, a3, ⟨b1, b2, b3, b4, b5, b6⟩, a5⟩ := hf
      obtain ⟨w, rfl⟩ : ∃ w : Nat, v' = w := ⟨v'.toNat, by omega⟩
      rw [a3, show (-100 - (-100 - (w : Int))).toNat = w from by omega]
      simp only [Int.toNat_natCast] at *
      have hf' := fr_close b1 b4 p l 0 0 _ rfl b2 a5
      have ek : ∀ u i, i ≠ 3 → upD d w 3 (p : Int) u i = d u i := fun u i hi => upD_ne d _ (by omega)
      have en : ∀ u, nrow (upD d w 3 (p : Int)) u = nrow d u := fun u => by unfold nrow; rw [ek u 0 (by omega), ek u 1 (by omega)]
      refine ⟨⟨d w 4, by show d w 4 < n; omega, hf'⟩, ?_, ?_, ?_⟩
      · show Cl g n (upD d w 3 (p : Int))
        intro u hu h3
        have hch : ∀ c, c < n → d c 4 = u → upD d w 3 (p : Int) c 3 ≠ -1 := by
          intro c hc hcu
          by_cases ec : c = w
          · rw [ec, upD_at]; omega
          · rw [upD_ne d _ (by omega)]
            by_cases eu : u = w
            · subst eu
              intro q
              have hm := hO c hc q
              have hcl := (hR c hc).1.2
              rcases List.mem_cons.mp hm with k | k
              · have := (Prod.mk.inj k).1; omega
              · have := fr_in l _ _ _ _ a5 _ k (by show -100 - (c : Int) ≤ -100; omega)
                have : -100 - d u 4 ≤ -100 - (c : Int) := this
                omega
            · rw [upD_ne d _ (by omega)] at h3
              exact (hC u hu h3).2.2 c hc hcu
        by_cases eu : u = w
        · subst eu
          rw [upD_at, ek u 2 (by omega), ek u 5 (by omega), en, chS_up (by omega)]
          exact ⟨by omega, by omega, fun c hc hcu => hch c hc (by rw [ek c 4 (by omega)] at hcu; exact hcu)⟩
        · have h3' := h3
          rw [upD_ne d _ (by omega)] at h3'
          have hw4 : d w 4 ≠ u := fun q => (hC u hu h3').2.2 w b1 q b4
          rw [upD_ne d _ (by omega), ek u 2 (by omega), ek u 5 (by omega), en, chS_up hw4]
          exact ⟨(hC u hu h3').1, (hC u hu h3').2.1, fun c hc hcu => hch c hc (by rw [ek c 4 (by omega)] at hcu; exact hcu)⟩
      · show Op n (upD d w 3 (p : Int)) l
        intro u hu h3
        have eu : u ≠ w := fun q => by subst q; rw [upD_at] at h3; omega
        rw [upD_ne d _ (by omega)] at h3
        rcases List.mem_cons.mp (hO u hu h3) with k | k
        · have := (Prod.mk.inj k).1; omega
        · exact k
      · show Rg g e n (upD d w 3 (p : Int))
        intro u hu
        obtain ⟨r1, r2, r3, r4, r5⟩ := hR u hu
        rw [ek u 4 (by omega), ek u 0 (by omega), ek u 1 (by omega), ek u 2 (by omega), ek u 6 (by omega)]
        refine ⟨r1, r2, r3, ?_, r5⟩
        by_cases eu : u = w
        · rw [eu, upD_at]; omega
        · rw [upD_ne d _ (by omega)]; exact r4
    · have i2 : LV g (sms ((s, v) :: l)) := i2
      have i3 : RR g T e (sms ((s, v) :: l)) p = e + 1 := i3
      rw [sms_sym (by omega)] at i2 i3
      by_cases q2 : 0 ≤ s
      · rw [stp_tok q2]
        rw [fr_tk q2] at hf
        refine ⟨⟨v', hv', ?_⟩, hC, ?_, hR⟩
        · show fr g n d l ((p + 1 : Nat) : Int) 0 0 v'
          have := fr_tok l _ _ _ _ hf.2
          rw [show ((p + 1 : Nat) : Int) = (p : Int) + 1 from by omega]; exact this
        · intro u hu h3
          rcases List.mem_cons.mp (hO u hu h3) with k | k
          · have := (Prod.mk.inj k).1; omega
          · exact k
      · have hs : s < 0 := by omega
        rw [stp_rul (by omega) hs]
        rw [fr_rl (by omega) hs] at hf
        obtain ⟨c1, c2, c3⟩ := chs_sp hs i1 i2 i3
        have hlk : lok g T e (rl s) p (sms l) (chs g T e (rl s) p (sms l)) ≤ e + 1 := mx_le _ _
        generalize lok g T e (rl s) p (sms l) (chs g T e (rl s) p (sms l)) = lk at hlk ⊢
        generalize chs g T e (rl s) p (sms l) = c at c1 c2 c3 ⊢
        obtain ⟨rfl, hf⟩ := hf
        have hx := LV_h i2 hs
        generalize rl s = x at c1 c2 c3 hx ⊢
        have hop := fr_op l _ _ _ _ hf
        have hnr : nrow (nwD d n x c p v lk) n = 8 * x + c := by unfold nrow; rw [nwD_0, nwD_1]; omega
        have en : ∀ u, u < n → nrow (nwD d n x c p v lk) u = nrow d u := fun u hu => by unfold nrow; rw [nwD_ne (by omega) (by omega), nwD_ne (by omega) (by omega)]
        refine ⟨⟨n, by show (n : Int) < (n + 1 : Nat); omega, ?_⟩, ?_, ?_, ?_⟩
        · show fr g (n + 1) (nwD d n x c p v lk) (itm n (rsy g (8 * x + c) 0) ++ (-100 - (n : Int), (n : Int)) :: l) p 0 0 n
          refine fr_itm _ _ _ _ (fun z hz => by have := rsy_low hw z hz; omega) ?_
          rw [fr_mk (by omega)]
          refine ⟨rfl, by omega, rfl, ⟨by omega, ?_, ?_, ?_, ?_, ?_⟩, ?_⟩
          · rw [Int.toNat_natCast, nwD_4]; exact hv'
          · rw [Int.toNat_natCast, nwD_4]; rcases hop with k | ⟨w, k, _⟩ <;> omega
          · rw [Int.toNat_natCast, nwD_3]
          · rw [Int.toNat_natCast, hnr, nwD_2, chS_nw]
            have : chS d n n = 0 := sumZ_0 (fun i hi => by unfold chF; rw [if_neg (fun k => by have := (hR i hi).1.2; omega)])
            rw [this]; unfold own; omega
          · rw [Int.toNat_natCast, hnr, nwD_5]; unfold rin; omega
          · rw [Int.toNat_natCast, nwD_2, nwD_4]; exact fr_new l _ _ _ _ hv' hf
        · show Cl g (n + 1) (nwD d n x c p v lk)
          intro u hu h3
          by_cases eu : u = n
          · subst eu; rw [nwD_3] at h3; exact absurd rfl h3
          · have h3' := h3
            rw [nwD_ne eu (by omega)] at h3'
            have huv : (u : Int) ≠ v := by
              intro k
              rcases hop with k2 | ⟨w, k2, k3, k4⟩
              · omega
              · have : u = w := by omega
                subst this; exact h3' k4
            have hcu := hC u (by omega) h3'
            rw [nwD_ne eu (by omega), nwD_ne eu (by omega), nwD_ne eu (fun k => huv k.1), en u (by omega), chS_nw]
            refine ⟨hcu.1, hcu.2.1, fun j hj hju => ?_⟩
            by_cases ej : j = n
            · subst ej; rw [nwD_4] at hju; exact absurd hju.symm huv
            · rw [nwD_ne ej (by omega)] at hju ⊢; exact hcu.2.2 j (by omega) hju
        · show Op (n + 1) (nwD d n x c p v lk) (itm n (rsy g (8 * x + c) 0) ++ (-100 - (n : Int), (n : Int)) :: l)
          intro u hu h3
          refine List.mem_append.mpr (.inr ?_)
          by_cases eu : u = n
          · subst eu; exact List.mem_cons_self
          · rw [nwD_ne eu (by omega)] at h3
            refine List.mem_cons_of_mem _ ?_
            rcases List.mem_cons.mp (hO u (by omega) h3) with k | k
            · have := (Prod.mk.inj k).1; omega
            · exact k
        · show Rg g e (n + 1) (nwD d n x c p v lk)
          intro u hu
          by_cases eu : u = n
          · subst eu
            rw [nwD_0, nwD_1, nwD_2, nwD_3, nwD_4, nwD_6]
            exact ⟨⟨by rcases hop with k | ⟨w, k, _⟩ <;> omega, hv'⟩, ⟨x, rfl, hx, c, rfl, c1⟩, ⟨by omega, by omega⟩, ⟨by omega, by omega⟩, ⟨by omega, by omega⟩⟩
          · have := hR u (by omega)
            rw [nwD_ne eu (by omega), nwD_ne eu (by omega), nwD_ne eu (by omega), nwD_ne eu (by omega), nwD_ne eu (by omega), nwD_ne eu (by omega)]
            exact this
theorem J_itr {g : Gr} (hw : WF g) (h2 : NoF (F2 g) (gR g)) {T : Nat → Int} {e : Nat} {d0 : Nat → Nat → Int} (h0 : 0 < gR g) (h : En g T e 0 0 e) (k : Nat) : J1 g T e (itr g T e d0 k) ∧ J2 g e (itr g T e d0 k) := by
  induction k with
  | zero => exact ⟨J1_init h0 h, J2_init⟩
  | succ k ih => exact ⟨J1_stp hw h2 ih.1, J2_stp hw ih.1 ih.2⟩
/-- at the end -/
theorem J2_end {g : Gr} {e p n : Nat} {d : Nat → Nat → Int} (h : J2 g e ([], p, n, d)) : ∀ u, u < n → d u 5 = rin g (nrow d u) ∧ d u 3 - d u 2 = own g (nrow d u) + sumZ (fun c => if d c 4 = u then d c 3 - d c 2 else 0) n ∧ d u 3 ≠ -1 := by
  intro u hu
  obtain ⟨_, hC, hO, hR⟩ := h
  have hall : ∀ c, c < n → d c 3 ≠ -1 := fun c hc q => absurd (hO c hc q) List.not_mem_nil
  obtain ⟨k1, k2, k3⟩ := hC u hu (hall u hu)
  refine ⟨k2, ?_, hall u hu⟩
  have : chS d n u = sumZ (fun c => if d c 4 = u then d c 3 - d c 2 else 0) n := by
    refine sumZ_congr (fun c hc => ?_)
    unfold chF
    by_cases q : d c 4 = u
    · rw [if_pos ⟨q, hall c hc⟩, if_pos q]
    · rw [if_neg (fun k => q k.1), if_neg q]
  have k1 : d u 3 = d u 2 + own g (nrow d u) + chS d n u := k1
  omega
