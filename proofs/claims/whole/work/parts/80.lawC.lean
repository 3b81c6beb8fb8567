def Inv (i : Nat) (σ τ : St) (_ : Nat → Int64) (cells slots : Nat) : Prop := (∃ g T n, Rel g T n σ τ) ∧ xn σ ≤ 2061 ∧ cells ≤ 50 + 2 * xn σ + i ∧ slots ≤ 261749 + 64 * xn σ + 6 * i ∧ i ≤ 1536
theorem Inv.bd {i : Nat} {σ τ : St} {f : Nat → Int64} {cells slots : Nat} (h : Inv i σ τ f cells slots) : cells ≤ 601024 ∧ slots ≤ 7293034 := by
  obtain ⟨_, h1, h2, h3, h4⟩ := h
  omega
theorem Inv.nx {i δ c s : Nat} {σ τ σ' τ' : St} {f f' : Nat → Int64} {cells slots : Nat} (h : Inv i σ τ f cells slots) (hi : i + 3 ≤ 1536) (hr : ∃ g T n, Rel g T n σ' τ') (hx : xn σ' = xn σ + δ) (hb : xn σ' ≤ 2061) (hc : c ≤ 2 * δ + 1) (hs : s ≤ 64 * δ + 6) : Inv (i + 3) σ' τ' f' (cells + c) (slots + s) := by
  obtain ⟨_, h1, h2, h3, h4⟩ := h
  exact ⟨hr, hb, by omega, by omega, by omega⟩
theorem case_of (x : Int32) : ∃ k, k ≤ 31 ∧ x &&& 31 = nI k := by
  have h : U (x &&& 31) (Nat.land x.toUInt32.toNat 31) := U_and (U_self x) (by unfold U; decide)
  have h2 : Nat.land x.toUInt32.toNat 31 ≤ 31 := Nat.and_le_right
  exact ⟨_, h2, U_nI h (by omega)⟩
section LC
variable {K : KX} {G : GG} {b L : Nat} {xs : Nat → Int32} {σ τ : St} {o : Nat} {f : Nat → Int64} {i cells slots : Nat}
theorem st_0 (X : Bd K G [] "FirstTreesLaw" code 8 ret room_1) (hnf : nf (ks K)) (hX : va_X b L xs (ks K) (ks K).heap) (hbl : b < (ks K).heap.size) (hL : L ≤ 1536) (hI : Inv i σ τ f cells slots) (hi : i + 3 ≤ L) (hgo : ¬ nI L - 3 < nI i)
    (cont : ∀ σ' τ' f' cells' slots', Inv (i + 3) σ' τ' f' cells' slots' → xa σ' 0 = xa σ 0 → xa τ' 0 = xa τ 0 → LW K G b (xa σ 0) (xa τ 0) o (i + 3) σ' τ' f' cells' slots') (hc : xs i &&& 31 = nI 0) : LW K G b (xa σ 0) (xa τ 0) o i σ τ f cells slots := by
  obtain ⟨⟨g, T, n, hR⟩, hx, _⟩ := id hI
  obtain ⟨rH, k5, f', s, v, q, tH, tM, hRH, hcs, hz, hv, hr, hn⟩ := o_rule G o f hR
  have hI' : Inv (i + 3) (xa σ, s) (xa τ, q) f' (cells + rH.cells) (slots + rH.slots) := hI.nx (δ := 0) (by omega) hr hn (by rw [hn]; exact hx) (by omega) (by omega)
  obtain ⟨b6, rfl, hv⟩ := hv
  by_cases hk : k5 = 0
  · exact lc_0n X hnf hX hbl (by omega) σ τ o f i cells slots hgo hi hc rH k5 f' (WC G (xa σ, s)) b6 q tH hRH hI'.bd tM hz hk (hv hk) (cont (xa σ, s) (xa τ, q) f' (cells + rH.cells) (slots + rH.slots) hI' rfl rfl)
  · exact lc_0z X hnf hX hbl (by omega) σ τ o f i cells slots hgo hi hc rH k5 f' (WC G (xa σ, s)) b6 q tH hRH hI'.bd tM hz hk (cont (xa σ, s) (xa τ, q) f' (cells + rH.cells) (slots + rH.slots) hI' rfl rfl)
theorem st_1 (X : Bd K G [] "FirstTreesLaw" code 8 ret room_1) (hnf : nf (ks K)) (hX : va_X b L xs (ks K) (ks K).heap) (hbl : b < (ks K).heap.size) (hL : L ≤ 1536) (hI : Inv i σ τ f cells slots) (hi : i + 3 ≤ L) (hgo : ¬ nI L - 3 < nI i)
    (cont : ∀ σ' τ' f' cells' slots', Inv (i + 3) σ' τ' f' cells' slots' → xa σ' 0 = xa σ 0 → xa τ' 0 = xa τ 0 → LW K G b (xa σ 0) (xa τ 0) o (i + 3) σ' τ' f' cells' slots') (hc : xs i &&& 31 = nI 1) : LW K G b (xa σ 0) (xa τ 0) o i σ τ f cells slots := by
  obtain ⟨⟨g, T, n, hR⟩, hx, _⟩ := id hI
  obtain ⟨rH, k5, f', s, v, q, tH, tM, hRH, hcs, hz, hv, hr, hn⟩ := o_alternative G o f (xs (i + 1)) hR
  have hI' : Inv (i + 3) (xa σ, s) (xa τ, q) f' (cells + rH.cells) (slots + rH.slots) := hI.nx (δ := 0) (by omega) hr hn (by rw [hn]; exact hx) (by omega) (by omega)
  obtain ⟨b6, rfl, hv⟩ := hv
  by_cases hk : k5 = 0
  · exact lc_1n X hnf hX hbl (by omega) σ τ o f i cells slots hgo hi hc rH k5 f' (WC G (xa σ, s)) b6 q tH hRH hI'.bd tM hz hk (hv hk) (cont (xa σ, s) (xa τ, q) f' (cells + rH.cells) (slots + rH.slots) hI' rfl rfl)
  · exact lc_1z X hnf hX hbl (by omega) σ τ o f i cells slots hgo hi hc rH k5 f' (WC G (xa σ, s)) b6 q tH hRH hI'.bd tM hz hk (cont (xa σ, s) (xa τ, q) f' (cells + rH.cells) (slots + rH.slots) hI' rfl rfl)
theorem st_2 (X : Bd K G [] "FirstTreesLaw" code 8 ret room_1) (hnf : nf (ks K)) (hX : va_X b L xs (ks K) (ks K).heap) (hbl : b < (ks K).heap.size) (hL : L ≤ 1536) (hI : Inv i σ τ f cells slots) (hi : i + 3 ≤ L) (hgo : ¬ nI L - 3 < nI i)
    (cont : ∀ σ' τ' f' cells' slots', Inv (i + 3) σ' τ' f' cells' slots' → xa σ' 0 = xa σ 0 → xa τ' 0 = xa τ 0 → LW K G b (xa σ 0) (xa τ 0) o (i + 3) σ' τ' f' cells' slots') (hc : xs i &&& 31 = nI 2) : LW K G b (xa σ 0) (xa τ 0) o i σ τ f cells slots := by
  obtain ⟨⟨g, T, n, hR⟩, hx, _⟩ := id hI
  obtain ⟨rH, k5, f', s, v, q, tH, tM, hRH, hcs, hz, hv, hr, hn⟩ := o_symbol G o f (xs (i + 1)) (xs (i + 2)) hR
  have hI' : Inv (i + 3) (xa σ, s) (xa τ, q) f' (cells + rH.cells) (slots + rH.slots) := hI.nx (δ := 0) (by omega) hr hn (by rw [hn]; exact hx) (by omega) (by omega)
  obtain ⟨b6, rfl, hv⟩ := hv
  by_cases hk : k5 = 0
  · exact lc_2n X hnf hX hbl (by omega) σ τ o f i cells slots hgo hi hc rH k5 f' (WC G (xa σ, s)) b6 q tH hRH hI'.bd tM hz hk (hv hk) (cont (xa σ, s) (xa τ, q) f' (cells + rH.cells) (slots + rH.slots) hI' rfl rfl)
  · exact lc_2z X hnf hX hbl (by omega) σ τ o f i cells slots hgo hi hc rH k5 f' (WC G (xa σ, s)) b6 q tH hRH hI'.bd tM hz hk (cont (xa σ, s) (xa τ, q) f' (cells + rH.cells) (slots + rH.slots) hI' rfl rfl)
theorem st_3 (X : Bd K G [] "FirstTreesLaw" code 8 ret room_1) (hnf : nf (ks K)) (hX : va_X b L xs (ks K) (ks K).heap) (hbl : b < (ks K).heap.size) (hL : L ≤ 1536) (hI : Inv i σ τ f cells slots) (hi : i + 3 ≤ L) (hgo : ¬ nI L - 3 < nI i)
    (cont : ∀ σ' τ' f' cells' slots', Inv (i + 3) σ' τ' f' cells' slots' → xa σ' 0 = xa σ 0 → xa τ' 0 = xa τ 0 → LW K G b (xa σ 0) (xa τ 0) o (i + 3) σ' τ' f' cells' slots') (hc : xs i &&& 31 = nI 3) : LW K G b (xa σ 0) (xa τ 0) o i σ τ f cells slots := by
  obtain ⟨⟨g, T, n, hR⟩, hx, _⟩ := id hI
  obtain ⟨b5, s, q, tC, tM, hr, hn⟩ := o_clear G hR
  have hI' : Inv (i + 3) (xa σ, s) (xa τ, q) f (cells + 0) (slots + 0) := hI.nx (δ := 0) (by omega) hr hn (by rw [hn]; exact hx) (by omega) (by omega)
  exact lc_3 X hnf hX hbl (by omega) σ τ o f i cells slots hgo hi hc b5 (WC G (xa σ, s)) b5 q hI.bd tC tM rfl (cont (xa σ, s) (xa τ, q) f cells slots hI' rfl rfl)
theorem st_4 (X : Bd K G [] "FirstTreesLaw" code 8 ret room_1) (hnf : nf (ks K)) (hX : va_X b L xs (ks K) (ks K).heap) (hbl : b < (ks K).heap.size) (hL : L ≤ 1536) (hI : Inv i σ τ f cells slots) (hi : i + 3 ≤ L) (hgo : ¬ nI L - 3 < nI i)
    (cont : ∀ σ' τ' f' cells' slots', Inv (i + 3) σ' τ' f' cells' slots' → xa σ' 0 = xa σ 0 → xa τ' 0 = xa τ 0 → LW K G b (xa σ 0) (xa τ 0) o (i + 3) σ' τ' f' cells' slots') (hc : xs i &&& 31 = nI 4) : LW K G b (xa σ 0) (xa τ 0) o i σ τ f cells slots := by
  obtain ⟨⟨g, T, n, hR⟩, hx, _⟩ := id hI
  obtain ⟨b5, s, q, tC, tM, hr, hn⟩ := o_fault G hR
  have hI' : Inv (i + 3) (xa σ, s) (xa τ, q) f (cells + 0) (slots + 0) := hI.nx (δ := 0) (by omega) hr hn (by rw [hn]; exact hx) (by omega) (by omega)
  exact lc_4 X hnf hX hbl (by omega) σ τ o f i cells slots hgo hi hc b5 (WC G (xa σ, s)) b5 q hI.bd tC tM rfl (cont (xa σ, s) (xa τ, q) f cells slots hI' rfl rfl)
theorem st_5 (X : Bd K G [] "FirstTreesLaw" code 8 ret room_1) (hnf : nf (ks K)) (hX : va_X b L xs (ks K) (ks K).heap) (hbl : b < (ks K).heap.size) (hL : L ≤ 1536) (hI : Inv i σ τ f cells slots) (hi : i + 3 ≤ L) (hgo : ¬ nI L - 3 < nI i)
    (cont : ∀ σ' τ' f' cells' slots', Inv (i + 3) σ' τ' f' cells' slots' → xa σ' 0 = xa σ 0 → xa τ' 0 = xa τ 0 → LW K G b (xa σ 0) (xa τ 0) o (i + 3) σ' τ' f' cells' slots') (hc : xs i &&& 31 = nI 5) : LW K G b (xa σ 0) (xa τ 0) o i σ τ f cells slots := by
  obtain ⟨⟨g, T, n, hR⟩, hx, _⟩ := id hI
  obtain ⟨b5, s, q, tC, tM, hr, hn⟩ := o_faulty G hR
  have hI' : Inv (i + 3) (xa σ, s) (xa τ, q) f (cells + 0) (slots + 0) := hI.nx (δ := 0) (by omega) hr hn (by rw [hn]; exact hx) (by omega) (by omega)
  exact lc_5 X hnf hX hbl (by omega) σ τ o f i cells slots hgo hi hc b5 (WC G (xa σ, s)) b5 q hI.bd tC tM rfl (cont (xa σ, s) (xa τ, q) f cells slots hI' rfl rfl)
theorem st_6 (X : Bd K G [] "FirstTreesLaw" code 8 ret room_1) (hnf : nf (ks K)) (hX : va_X b L xs (ks K) (ks K).heap) (hbl : b < (ks K).heap.size) (hL : L ≤ 1536) (hI : Inv i σ τ f cells slots) (hi : i + 3 ≤ L) (hgo : ¬ nI L - 3 < nI i)
    (cont : ∀ σ' τ' f' cells' slots', Inv (i + 3) σ' τ' f' cells' slots' → xa σ' 0 = xa σ 0 → xa τ' 0 = xa τ 0 → LW K G b (xa σ 0) (xa τ 0) o (i + 3) σ' τ' f' cells' slots') (hc : xs i &&& 31 = nI 6) : LW K G b (xa σ 0) (xa τ 0) o i σ τ f cells slots := by
  obtain ⟨⟨g, T, n, hR⟩, hx, _⟩ := id hI
  obtain ⟨rH, k5, f', s, v, q, tH, tM, hRH, hcs, hz, hv, hr, hn⟩ := o_token G o f (xs (i + 1)) hR
  have hI' : Inv (i + 3) (xa σ, s) (xa τ, q) f' (cells + rH.cells) (slots + rH.slots) := hI.nx (δ := 0) (by omega) hr hn (by rw [hn]; exact hx) (by omega) (by omega)
  obtain ⟨b6, rfl, hv⟩ := hv
  by_cases hk : k5 = 0
  · exact lc_6n X hnf hX hbl (by omega) σ τ o f i cells slots hgo hi hc rH k5 f' (WC G (xa σ, s)) b6 q tH hRH hI'.bd tM hz hk (hv hk) (cont (xa σ, s) (xa τ, q) f' (cells + rH.cells) (slots + rH.slots) hI' rfl rfl)
  · exact lc_6z X hnf hX hbl (by omega) σ τ o f i cells slots hgo hi hc rH k5 f' (WC G (xa σ, s)) b6 q tH hRH hI'.bd tM hz hk (cont (xa σ, s) (xa τ, q) f' (cells + rH.cells) (slots + rH.slots) hI' rfl rfl)
theorem st_7 (X : Bd K G [] "FirstTreesLaw" code 8 ret room_1) (hnf : nf (ks K)) (hX : va_X b L xs (ks K) (ks K).heap) (hbl : b < (ks K).heap.size) (hL : L ≤ 1536) (hI : Inv i σ τ f cells slots) (hi : i + 3 ≤ L) (hgo : ¬ nI L - 3 < nI i)
    (cont : ∀ σ' τ' f' cells' slots', Inv (i + 3) σ' τ' f' cells' slots' → xa σ' 0 = xa σ 0 → xa τ' 0 = xa τ 0 → LW K G b (xa σ 0) (xa τ 0) o (i + 3) σ' τ' f' cells' slots') (hc : xs i &&& 31 = nI 7) : LW K G b (xa σ 0) (xa τ 0) o i σ τ f cells slots := by
  obtain ⟨⟨g, T, n, hR⟩, hx, _⟩ := id hI
  obtain ⟨rH, k5, f', s, v, q, tH, tM, hRH, hcs, hz, hv, hr, hn⟩ := o_keep G o f (xs (i + 1)) hR
  have hI' : Inv (i + 3) (xa σ, s) (xa τ, q) f' (cells + rH.cells) (slots + rH.slots) := hI.nx (δ := 0) (by omega) hr hn (by rw [hn]; exact hx) (by omega) (by omega)
  exact lc_7 X hnf hX hbl (by omega) σ τ o f i cells slots hgo hi hc rH k5 f' (WC G (xa σ, s)) q tH hRH hI'.bd tM hz (cont (xa σ, s) (xa τ, q) f' (cells + rH.cells) (slots + rH.slots) hI' rfl rfl)
theorem st_8 (X : Bd K G [] "FirstTreesLaw" code 8 ret room_1) (hnf : nf (ks K)) (hX : va_X b L xs (ks K) (ks K).heap) (hbl : b < (ks K).heap.size) (hL : L ≤ 1536) (hI : Inv i σ τ f cells slots) (hi : i + 3 ≤ L) (hgo : ¬ nI L - 3 < nI i)
    (cont : ∀ σ' τ' f' cells' slots', Inv (i + 3) σ' τ' f' cells' slots' → xa σ' 0 = xa σ 0 → xa τ' 0 = xa τ 0 → LW K G b (xa σ 0) (xa τ 0) o (i + 3) σ' τ' f' cells' slots') (hc : xs i &&& 31 = nI 8) : LW K G b (xa σ 0) (xa τ 0) o i σ τ f cells slots := by
  obtain ⟨⟨g, T, n, hR⟩, hx, _⟩ := id hI
  rcases o_parse G o f hR hx with hp | hp
  · obtain ⟨rH, k5, f', s, v, q, tH, tM, hRH, hcs, hz, hv, hr, hn⟩ := hp
    have hI' : Inv (i + 3) (xa σ, s) (xa τ, q) f' (cells + rH.cells) (slots + rH.slots) := hI.nx (δ := 0) (by omega) hr hn (by rw [hn]; exact hx) (by omega) (by omega)
    obtain ⟨b6, rfl, hv⟩ := hv
    by_cases hk : k5 = 0
    · exact lc_8n X hnf hX hbl (by omega) σ τ o f i cells slots hgo hi hc rH k5 f' (WC G (xa σ, s)) b6 q tH hRH hI'.bd tM hz hk (hv hk) (cont (xa σ, s) (xa τ, q) f' (cells + rH.cells) (slots + rH.slots) hI' rfl rfl)
    · exact lc_8z X hnf hX hbl (by omega) σ τ o f i cells slots hgo hi hc rH k5 f' (WC G (xa σ, s)) b6 q tH hRH hI'.bd tM hz hk (cont (xa σ, s) (xa τ, q) f' (cells + rH.cells) (slots + rH.slots) hI' rfl rfl)
  · obtain ⟨rH, k5, f', v, q, δ, R, tH, tM, hRH, hcs, hz, hv, hr⟩ := hp
    have hbd : cells + rH.cells ≤ 601024 ∧ slots + rH.slots ≤ 7293034 := by
      obtain ⟨_, h1, h2, h3, h4⟩ := hI
      omega
    obtain ⟨b6, rfl, hv⟩ := hv
    have kk : ∀ σ' : St, xa σ' 0 = xa σ 0 → R σ' → LW K G b (xa σ 0) (xa τ 0) o (i + 3) σ' (xa τ, q) f' (cells + rH.cells) (slots + rH.slots) := by
      intro σ' ha hR'
      obtain ⟨h1, h2, h3⟩ := hr σ' hR'
      exact cont σ' (xa τ, q) f' _ _ (hI.nx (δ := δ) (by omega) h1 h2 h3 hcs.1 hcs.2.1) ha rfl
    by_cases hk : k5 = 0
    · exact lc_8nR X hnf hX hbl (by omega) σ τ o f i cells slots hgo hi hc rH k5 f' R b6 q tH hRH hbd tM hz hk (hv hk) kk
    · exact lc_8zR X hnf hX hbl (by omega) σ τ o f i cells slots hgo hi hc rH k5 f' R b6 q tH hRH hbd tM hz hk kk
theorem st_9 (X : Bd K G [] "FirstTreesLaw" code 8 ret room_1) (hnf : nf (ks K)) (hX : va_X b L xs (ks K) (ks K).heap) (hbl : b < (ks K).heap.size) (hL : L ≤ 1536) (hI : Inv i σ τ f cells slots) (hi : i + 3 ≤ L) (hgo : ¬ nI L - 3 < nI i)
    (cont : ∀ σ' τ' f' cells' slots', Inv (i + 3) σ' τ' f' cells' slots' → xa σ' 0 = xa σ 0 → xa τ' 0 = xa τ 0 → LW K G b (xa σ 0) (xa τ 0) o (i + 3) σ' τ' f' cells' slots') (hc : xs i &&& 31 = nI 9) : LW K G b (xa σ 0) (xa τ 0) o i σ τ f cells slots := by
  obtain ⟨⟨g, T, n, hR⟩, hx, _⟩ := id hI
  obtain ⟨b5, s, q, tC, tM, hr, hn⟩ := o_nodes G hR
  have hI' : Inv (i + 3) (xa σ, s) (xa τ, q) f (cells + 0) (slots + 0) := hI.nx (δ := 0) (by omega) hr hn (by rw [hn]; exact hx) (by omega) (by omega)
  exact lc_9 X hnf hX hbl (by omega) σ τ o f i cells slots hgo hi hc b5 (WC G (xa σ, s)) b5 q hI.bd tC tM rfl (cont (xa σ, s) (xa τ, q) f cells slots hI' rfl rfl)
theorem st_10 (X : Bd K G [] "FirstTreesLaw" code 8 ret room_1) (hnf : nf (ks K)) (hX : va_X b L xs (ks K) (ks K).heap) (hbl : b < (ks K).heap.size) (hL : L ≤ 1536) (hI : Inv i σ τ f cells slots) (hi : i + 3 ≤ L) (hgo : ¬ nI L - 3 < nI i)
    (cont : ∀ σ' τ' f' cells' slots', Inv (i + 3) σ' τ' f' cells' slots' → xa σ' 0 = xa σ 0 → xa τ' 0 = xa τ 0 → LW K G b (xa σ 0) (xa τ 0) o (i + 3) σ' τ' f' cells' slots') (hc : xs i &&& 31 = nI 10) : LW K G b (xa σ 0) (xa τ 0) o i σ τ f cells slots := by
  obtain ⟨⟨g, T, n, hR⟩, hx, _⟩ := id hI
  obtain ⟨rH, k5, f', s, v, q, tH, tM, hRH, hcs, hz, hv, hr, hn⟩ := o_node G o f (xs (i + 1)) (xs (i + 2)) hR
  have hI' : Inv (i + 3) (xa σ, s) (xa τ, q) f' (cells + rH.cells) (slots + rH.slots) := hI.nx (δ := 0) (by omega) hr hn (by rw [hn]; exact hx) (by omega) (by omega)
  obtain ⟨b6, rfl, hv⟩ := hv
  by_cases hk : k5 = 0
  · exact lc_10n X hnf hX hbl (by omega) σ τ o f i cells slots hgo hi hc rH k5 f' (WC G (xa σ, s)) b6 q tH hRH hI'.bd tM hz hk (hv hk) (cont (xa σ, s) (xa τ, q) f' (cells + rH.cells) (slots + rH.slots) hI' rfl rfl)
  · exact lc_10z X hnf hX hbl (by omega) σ τ o f i cells slots hgo hi hc rH k5 f' (WC G (xa σ, s)) b6 q tH hRH hI'.bd tM hz hk (cont (xa σ, s) (xa τ, q) f' (cells + rH.cells) (slots + rH.slots) hI' rfl rfl)
theorem st_11 (X : Bd K G [] "FirstTreesLaw" code 8 ret room_1) (hnf : nf (ks K)) (hX : va_X b L xs (ks K) (ks K).heap) (hbl : b < (ks K).heap.size) (hL : L ≤ 1536) (hI : Inv i σ τ f cells slots) (hi : i + 3 ≤ L) (hgo : ¬ nI L - 3 < nI i)
    (cont : ∀ σ' τ' f' cells' slots', Inv (i + 3) σ' τ' f' cells' slots' → xa σ' 0 = xa σ 0 → xa τ' 0 = xa τ 0 → LW K G b (xa σ 0) (xa τ 0) o (i + 3) σ' τ' f' cells' slots') (hc : xs i &&& 31 = nI 11) : LW K G b (xa σ 0) (xa τ 0) o i σ τ f cells slots := by
  obtain ⟨⟨g, T, n, hR⟩, hx, _⟩ := id hI
  obtain ⟨rH, k5, f', s, v, q, tH, tM, hRH, hcs, hz, hv, hr, hn⟩ := o_reach G o f hR
  have hI' : Inv (i + 3) (xa σ, s) (xa τ, q) f' (cells + rH.cells) (slots + rH.slots) := hI.nx (δ := 0) (by omega) hr hn (by rw [hn]; exact hx) (by omega) (by omega)
  obtain ⟨b6, rfl, hv⟩ := hv
  by_cases hk : k5 = 0
  · exact lc_11n X hnf hX hbl (by omega) σ τ o f i cells slots hgo hi hc rH k5 f' (WC G (xa σ, s)) b6 q tH hRH hI'.bd tM hz hk (hv hk) (cont (xa σ, s) (xa τ, q) f' (cells + rH.cells) (slots + rH.slots) hI' rfl rfl)
  · exact lc_11z X hnf hX hbl (by omega) σ τ o f i cells slots hgo hi hc rH k5 f' (WC G (xa σ, s)) b6 q tH hRH hI'.bd tM hz hk (cont (xa σ, s) (xa τ, q) f' (cells + rH.cells) (slots + rH.slots) hI' rfl rfl)
theorem st_12 (X : Bd K G [] "FirstTreesLaw" code 8 ret room_1) (hnf : nf (ks K)) (hX : va_X b L xs (ks K) (ks K).heap) (hbl : b < (ks K).heap.size) (hL : L ≤ 1536) (hI : Inv i σ τ f cells slots) (hi : i + 3 ≤ L) (hgo : ¬ nI L - 3 < nI i)
    (cont : ∀ σ' τ' f' cells' slots', Inv (i + 3) σ' τ' f' cells' slots' → xa σ' 0 = xa σ 0 → xa τ' 0 = xa τ 0 → LW K G b (xa σ 0) (xa τ 0) o (i + 3) σ' τ' f' cells' slots') (hc : xs i &&& 31 = nI 12) : LW K G b (xa σ 0) (xa τ 0) o i σ τ f cells slots := by
  obtain ⟨⟨g, T, n, hR⟩, hx, _⟩ := id hI
  obtain ⟨rH, k5, f', s, v, q, tH, tM, hRH, hcs, hz, hv, hr, hn⟩ := o_expected G o f (xs (i + 1)) hR
  have hI' : Inv (i + 3) (xa σ, s) (xa τ, q) f' (cells + rH.cells) (slots + rH.slots) := hI.nx (δ := 0) (by omega) hr hn (by rw [hn]; exact hx) (by omega) (by omega)
  obtain ⟨b6, rfl, hv⟩ := hv
  by_cases hk : k5 = 0
  · exact lc_12n X hnf hX hbl (by omega) σ τ o f i cells slots hgo hi hc rH k5 f' (WC G (xa σ, s)) b6 q tH hRH hI'.bd tM hz hk (hv hk) (cont (xa σ, s) (xa τ, q) f' (cells + rH.cells) (slots + rH.slots) hI' rfl rfl)
  · exact lc_12z X hnf hX hbl (by omega) σ τ o f i cells slots hgo hi hc rH k5 f' (WC G (xa σ, s)) b6 q tH hRH hI'.bd tM hz hk (cont (xa σ, s) (xa τ, q) f' (cells + rH.cells) (slots + rH.slots) hI' rfl rfl)
theorem st_13 (X : Bd K G [] "FirstTreesLaw" code 8 ret room_1) (hnf : nf (ks K)) (hX : va_X b L xs (ks K) (ks K).heap) (hbl : b < (ks K).heap.size) (hL : L ≤ 1536) (hI : Inv i σ τ f cells slots) (hi : i + 3 ≤ L) (hgo : ¬ nI L - 3 < nI i)
    (cont : ∀ σ' τ' f' cells' slots', Inv (i + 3) σ' τ' f' cells' slots' → xa σ' 0 = xa σ 0 → xa τ' 0 = xa τ 0 → LW K G b (xa σ 0) (xa τ 0) o (i + 3) σ' τ' f' cells' slots') (hc : xs i &&& 31 = nI 13) : LW K G b (xa σ 0) (xa τ 0) o i σ τ f cells slots := by
  obtain ⟨⟨g, T, n, hR⟩, hx, _⟩ := id hI
  obtain ⟨rH, k5, f', s, v, q, tH, tM, hRH, hcs, hz, hv, hr, hn⟩ := o_isNothing G o f (xs (i + 1)) hR
  have hI' : Inv (i + 3) (xa σ, s) (xa τ, q) f' (cells + rH.cells) (slots + rH.slots) := hI.nx (δ := 0) (by omega) hr hn (by rw [hn]; exact hx) (by omega) (by omega)
  obtain ⟨b6, rfl, hv⟩ := hv
  by_cases hk : k5 = 0
  · rcases hv hk with ⟨e1, e2⟩ | ⟨e1, e2⟩
    · exact lc_13n0 X hnf hX hbl (by omega) σ τ o f i cells slots hgo hi hc rH k5 f' (WC G (xa σ, s)) b6 q tH hRH hI'.bd tM hz hk e1 e2 (cont (xa σ, s) (xa τ, q) f' (cells + rH.cells) (slots + rH.slots) hI' rfl rfl)
    · exact lc_13n1 X hnf hX hbl (by omega) σ τ o f i cells slots hgo hi hc rH k5 f' (WC G (xa σ, s)) b6 q tH hRH hI'.bd tM hz hk e1 e2 (cont (xa σ, s) (xa τ, q) f' (cells + rH.cells) (slots + rH.slots) hI' rfl rfl)
  · exact lc_13z X hnf hX hbl (by omega) σ τ o f i cells slots hgo hi hc rH k5 f' (WC G (xa σ, s)) b6 q tH hRH hI'.bd tM hz hk (cont (xa σ, s) (xa τ, q) f' (cells + rH.cells) (slots + rH.slots) hI' rfl rfl)
theorem st_14 (X : Bd K G [] "FirstTreesLaw" code 8 ret room_1) (hnf : nf (ks K)) (hX : va_X b L xs (ks K) (ks K).heap) (hbl : b < (ks K).heap.size) (hL : L ≤ 1536) (hI : Inv i σ τ f cells slots) (hi : i + 3 ≤ L) (hgo : ¬ nI L - 3 < nI i)
    (cont : ∀ σ' τ' f' cells' slots', Inv (i + 3) σ' τ' f' cells' slots' → xa σ' 0 = xa σ 0 → xa τ' 0 = xa τ 0 → LW K G b (xa σ 0) (xa τ 0) o (i + 3) σ' τ' f' cells' slots') (hc : xs i &&& 31 = nI 14) : LW K G b (xa σ 0) (xa τ 0) o i σ τ f cells slots := by
  obtain ⟨⟨g, T, n, hR⟩, hx, _⟩ := id hI
  obtain ⟨rH, k5, f', s, v, q, tH, tM, hRH, hcs, hz, hv, hr, hn⟩ := o_first G o f (xs (i + 1)) hR
  have hI' : Inv (i + 3) (xa σ, s) (xa τ, q) f' (cells + rH.cells) (slots + rH.slots) := hI.nx (δ := 0) (by omega) hr hn (by rw [hn]; exact hx) (by omega) (by omega)
  obtain ⟨b6, rfl, hv⟩ := hv
  by_cases hk : k5 = 0
  · exact lc_14n X hnf hX hbl (by omega) σ τ o f i cells slots hgo hi hc rH k5 f' (WC G (xa σ, s)) b6 q tH hRH hI'.bd tM hz hk (hv hk) (cont (xa σ, s) (xa τ, q) f' (cells + rH.cells) (slots + rH.slots) hI' rfl rfl)
  · exact lc_14z X hnf hX hbl (by omega) σ τ o f i cells slots hgo hi hc rH k5 f' (WC G (xa σ, s)) b6 q tH hRH hI'.bd tM hz hk (cont (xa σ, s) (xa τ, q) f' (cells + rH.cells) (slots + rH.slots) hI' rfl rfl)
theorem st_15 (X : Bd K G [] "FirstTreesLaw" code 8 ret room_1) (hnf : nf (ks K)) (hX : va_X b L xs (ks K) (ks K).heap) (hbl : b < (ks K).heap.size) (hL : L ≤ 1536) (hI : Inv i σ τ f cells slots) (hi : i + 3 ≤ L) (hgo : ¬ nI L - 3 < nI i)
    (cont : ∀ σ' τ' f' cells' slots', Inv (i + 3) σ' τ' f' cells' slots' → xa σ' 0 = xa σ 0 → xa τ' 0 = xa τ 0 → LW K G b (xa σ 0) (xa τ 0) o (i + 3) σ' τ' f' cells' slots') (hc : xs i &&& 31 = nI 15) : LW K G b (xa σ 0) (xa τ 0) o i σ τ f cells slots := by
  obtain ⟨⟨g, T, n, hR⟩, hx, _⟩ := id hI
  obtain ⟨rH, k5, f', s, v, q, tH, tM, hRH, hcs, hz, hv, hr, hn⟩ := o_following G o f (xs (i + 1)) hR
  have hI' : Inv (i + 3) (xa σ, s) (xa τ, q) f' (cells + rH.cells) (slots + rH.slots) := hI.nx (δ := 0) (by omega) hr hn (by rw [hn]; exact hx) (by omega) (by omega)
  obtain ⟨b6, rfl, hv⟩ := hv
  by_cases hk : k5 = 0
  · exact lc_15n X hnf hX hbl (by omega) σ τ o f i cells slots hgo hi hc rH k5 f' (WC G (xa σ, s)) b6 q tH hRH hI'.bd tM hz hk (hv hk) (cont (xa σ, s) (xa τ, q) f' (cells + rH.cells) (slots + rH.slots) hI' rfl rfl)
  · exact lc_15z X hnf hX hbl (by omega) σ τ o f i cells slots hgo hi hc rH k5 f' (WC G (xa σ, s)) b6 q tH hRH hI'.bd tM hz hk (cont (xa σ, s) (xa τ, q) f' (cells + rH.cells) (slots + rH.slots) hI' rfl rfl)
theorem st_16 (X : Bd K G [] "FirstTreesLaw" code 8 ret room_1) (hnf : nf (ks K)) (hX : va_X b L xs (ks K) (ks K).heap) (hbl : b < (ks K).heap.size) (hL : L ≤ 1536) (hI : Inv i σ τ f cells slots) (hi : i + 3 ≤ L) (hgo : ¬ nI L - 3 < nI i)
    (cont : ∀ σ' τ' f' cells' slots', Inv (i + 3) σ' τ' f' cells' slots' → xa σ' 0 = xa σ 0 → xa τ' 0 = xa τ 0 → LW K G b (xa σ 0) (xa τ 0) o (i + 3) σ' τ' f' cells' slots') (hc : xs i &&& 31 = nI 16) : LW K G b (xa σ 0) (xa τ 0) o i σ τ f cells slots := by
  obtain ⟨⟨g, T, n, hR⟩, hx, _⟩ := id hI
  obtain ⟨rH, k5, f', s, v, q, tH, tM, hRH, hcs, hz, hv, hr, hn⟩ := o_lets G o f (xs (i + 1)) (xs (i + 2)) hR
  have hI' : Inv (i + 3) (xa σ, s) (xa τ, q) f' (cells + rH.cells) (slots + rH.slots) := hI.nx (δ := 0) (by omega) hr hn (by rw [hn]; exact hx) (by omega) (by omega)
  obtain ⟨b6, rfl, hv⟩ := hv
  by_cases hk : k5 = 0
  · exact lc_16n X hnf hX hbl (by omega) σ τ o f i cells slots hgo hi hc rH k5 f' (WC G (xa σ, s)) b6 q tH hRH hI'.bd tM hz hk (hv hk) (cont (xa σ, s) (xa τ, q) f' (cells + rH.cells) (slots + rH.slots) hI' rfl rfl)
  · exact lc_16z X hnf hX hbl (by omega) σ τ o f i cells slots hgo hi hc rH k5 f' (WC G (xa σ, s)) b6 q tH hRH hI'.bd tM hz hk (cont (xa σ, s) (xa τ, q) f' (cells + rH.cells) (slots + rH.slots) hI' rfl rfl)
theorem st_17 (X : Bd K G [] "FirstTreesLaw" code 8 ret room_1) (hnf : nf (ks K)) (hX : va_X b L xs (ks K) (ks K).heap) (hbl : b < (ks K).heap.size) (hL : L ≤ 1536) (hI : Inv i σ τ f cells slots) (hi : i + 3 ≤ L) (hgo : ¬ nI L - 3 < nI i)
    (cont : ∀ σ' τ' f' cells' slots', Inv (i + 3) σ' τ' f' cells' slots' → xa σ' 0 = xa σ 0 → xa τ' 0 = xa τ 0 → LW K G b (xa σ 0) (xa τ 0) o (i + 3) σ' τ' f' cells' slots') (hc : xs i &&& 31 = nI 17) : LW K G b (xa σ 0) (xa τ 0) o i σ τ f cells slots := by
  obtain ⟨⟨g, T, n, hR⟩, hx, _⟩ := id hI
  obtain ⟨rH, k5, f', s, v, q, tH, tM, hRH, hcs, hz, hv, hr, hn⟩ := o_count G o f (xs (i + 1)) hR
  have hI' : Inv (i + 3) (xa σ, s) (xa τ, q) f' (cells + rH.cells) (slots + rH.slots) := hI.nx (δ := 0) (by omega) hr hn (by rw [hn]; exact hx) (by omega) (by omega)
  obtain ⟨b6, rfl, hv⟩ := hv
  by_cases hk : k5 = 0
  · exact lc_17n X hnf hX hbl (by omega) σ τ o f i cells slots hgo hi hc rH k5 f' (WC G (xa σ, s)) b6 q tH hRH hI'.bd tM hz hk (hv hk) (cont (xa σ, s) (xa τ, q) f' (cells + rH.cells) (slots + rH.slots) hI' rfl rfl)
  · exact lc_17z X hnf hX hbl (by omega) σ τ o f i cells slots hgo hi hc rH k5 f' (WC G (xa σ, s)) b6 q tH hRH hI'.bd tM hz hk (cont (xa σ, s) (xa τ, q) f' (cells + rH.cells) (slots + rH.slots) hI' rfl rfl)
theorem st_all (X : Bd K G [] "FirstTreesLaw" code 8 ret room_1) (hnf : nf (ks K)) (hX : va_X b L xs (ks K) (ks K).heap) (hbl : b < (ks K).heap.size) (hL : L ≤ 1536) (hI : Inv i σ τ f cells slots) (hi : i + 3 ≤ L) (hgo : ¬ nI L - 3 < nI i)
    (cont : ∀ σ' τ' f' cells' slots', Inv (i + 3) σ' τ' f' cells' slots' → xa σ' 0 = xa σ 0 → xa τ' 0 = xa τ 0 → LW K G b (xa σ 0) (xa τ 0) o (i + 3) σ' τ' f' cells' slots') : LW K G b (xa σ 0) (xa τ 0) o i σ τ f cells slots := by
  obtain ⟨k, hk, hc⟩ := case_of (xs i)
  by_cases hd : 17 < k
  · refine lc_d X hnf hX hbl (by omega) σ τ o f i cells slots hgo hi ?_ (cont σ τ f cells slots ?_ rfl rfl)
    · rw [hc, nI_sI, sI_toInt (by omega) (by omega)]; omega
    · obtain ⟨hR, hx, _⟩ := id hI
      exact hI.nx (c := 0) (s := 0) (δ := 0) (by omega) hR rfl hx (by omega) (by omega)
  · have e : k = 0 ∨ k = 1 ∨ k = 2 ∨ k = 3 ∨ k = 4 ∨ k = 5 ∨ k = 6 ∨ k = 7 ∨ k = 8 ∨ k = 9 ∨ k = 10 ∨ k = 11 ∨ k = 12 ∨ k = 13 ∨ k = 14 ∨ k = 15 ∨ k = 16 ∨ k = 17 := by omega
    rcases e with rfl | rfl | rfl | rfl | rfl | rfl | rfl | rfl | rfl | rfl | rfl | rfl | rfl | rfl | rfl | rfl | rfl | rfl
    · exact st_0 X hnf hX hbl hL hI hi hgo cont hc
    · exact st_1 X hnf hX hbl hL hI hi hgo cont hc
    · exact st_2 X hnf hX hbl hL hI hi hgo cont hc
    · exact st_3 X hnf hX hbl hL hI hi hgo cont hc
    · exact st_4 X hnf hX hbl hL hI hi hgo cont hc
    · exact st_5 X hnf hX hbl hL hI hi hgo cont hc
    · exact st_6 X hnf hX hbl hL hI hi hgo cont hc
    · exact st_7 X hnf hX hbl hL hI hi hgo cont hc
    · exact st_8 X hnf hX hbl hL hI hi hgo cont hc
    · exact st_9 X hnf hX hbl hL hI hi hgo cont hc
    · exact st_10 X hnf hX hbl hL hI hi hgo cont hc
    · exact st_11 X hnf hX hbl hL hI hi hgo cont hc
    · exact st_12 X hnf hX hbl hL hI hi hgo cont hc
    · exact st_13 X hnf hX hbl hL hI hi hgo cont hc
    · exact st_14 X hnf hX hbl hL hI hi hgo cont hc
    · exact st_15 X hnf hX hbl hL hI hi hgo cont hc
    · exact st_16 X hnf hX hbl hL hI hi hgo cont hc
    · exact st_17 X hnf hX hbl hL hI hi hgo cont hc
end LC
