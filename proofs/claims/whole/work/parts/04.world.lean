/-! the worlds: WC (the component), WM (the reference), over a state: addresses, ints, longs, pending symbols, their number -/
abbrev St : Type := (Nat → Nat) × (Nat → Nat → Int32) × (Nat → Nat → Int64) × (Nat → Nat → Int32) × Nat
abbrev xa (σ : St) : Nat → Nat := σ.1
abbrev xi (σ : St) : Nat → Nat → Int32 := σ.2.1
abbrev xl (σ : St) : Nat → Nat → Int64 := σ.2.2.1
abbrev xp (σ : St) : Nat → Nat → Int32 := σ.2.2.2.1
abbrev xn (σ : St) : Nat := σ.2.2.2.2
abbrev xst (σ : St) : Nat → Option Nat := fun i => if i < xn σ then some (xa σ (28 + 2 * i)) else none
def wi (σ : St) (k i : Nat) (v : Int32) : St := (σ.1, (fun j => if j = k then upd (σ.2.1 j) i v else σ.2.1 j), σ.2.2)
def wl (σ : St) (k i : Nat) (v : Int64) : St := (σ.1, σ.2.1, (fun j => if j = k then vp_updL (σ.2.2.1 j) i v else σ.2.2.1 j), σ.2.2.2)
def wp (σ : St) (k i : Nat) (v : Int32) : St := (σ.1, σ.2.1, σ.2.2.1, (fun j => if j = k then upd (σ.2.2.2.1 j) i v else σ.2.2.2.1 j), σ.2.2.2.2)
def pnd (G : GG) (σ : St) : va_W := (List.range (xn σ)).flatMap (fun i => [(xa σ (28 + 2 * i), .inr (8, [.int (xp σ (2 * i) 0), .int (xp σ (2 * i) 1), .ref (xa σ (29 + 2 * i))])), (xa σ (29 + 2 * i), .inl (G.2 0, 61, .inl (xp σ (2 * i + 1))))])
def WC (G : GG) (σ : St) : va_W := [(xa σ 0, .inr (0, [.ref (xa σ 1), .ref (xa σ 5), .ref (xa σ 10), .ref (xa σ 12), .ref (xa σ 19), .ref (xa σ 22), .ref (xa σ 24), .ref (xa σ 26)])),
  (xa σ 1, .inr (1, [.int (xi σ 1 0), .ref (xa σ 2), .ref (xa σ 3), .ref (xa σ 4)])),
  (xa σ 2, .inl (G.2 0, 16, .inl (xi σ 2))),
  (xa σ 3, .inl (G.2 0, 128, .inl (xi σ 3))),
  (xa σ 4, .inl (G.2 0, 1024, .inl (xi σ 4))),
  (xa σ 5, .inr (2, [.ref (xa σ 1), .int (xi σ 5 0), .int (xi σ 5 1), .int (xi σ 5 2), .int (xi σ 5 3), .ref (xa σ 6), .ref (xa σ 7), .ref (xa σ 8), .ref (xa σ 9)])),
  (xa σ 6, .inl (G.2 0, 16, .inl (xi σ 6))),
  (xa σ 7, .inl (G.2 0, 16, .inl (xi σ 7))),
  (xa σ 8, .inl (G.2 1, 16, .inr (.inl (xl σ 8)))),
  (xa σ 9, .inl (G.2 1, 16, .inr (.inl (xl σ 9)))),
  (xa σ 10, .inr (3, [.int (xi σ 10 0), .ref (xa σ 11)])),
  (xa σ 11, .inl (G.2 0, 60, .inl (xi σ 11))),
  (xa σ 12, .inr (4, [.ref (xa σ 1), .ref (xa σ 5), .ref (xa σ 10), .int (xi σ 12 0), .ref (xa σ 13), .ref (xa σ 14), .ref (xa σ 15), .ref (xa σ 16), .ref (xa σ 17), .ref (xa σ 18), .long (xl σ 12 0), .int (xi σ 12 1), .long (xl σ 12 1)])),
  (xa σ 13, .inl (G.2 1, 32, .inr (.inl (xl σ 13)))),
  (xa σ 14, .inl (G.2 1, 7808, .inr (.inl (xl σ 14)))),
  (xa σ 15, .inl (G.2 0, 7808, .inl (xi σ 15))),
  (xa σ 16, .inl (G.2 1, 976, .inr (.inl (xl σ 16)))),
  (xa σ 17, .inl (G.2 0, 976, .inl (xi σ 17))),
  (xa σ 18, .inl (G.2 1, 976, .inr (.inl (xl σ 18)))),
  (xa σ 19, .inr (5, [.ref (xa σ 1), .ref (xa σ 5), .ref (xa σ 10), .ref (xa σ 12), .ref (xa σ 20), .ref (xa σ 21)])),
  (xa σ 20, .inl (G.2 0, 59536, .inl (xi σ 20))),
  (xa σ 21, .inl (G.2 1, 61, .inr (.inl (xl σ 21)))),
  (xa σ 22, .inr (6, [.ref (xa σ 1), .ref (xa σ 10), .ref (xa σ 12), .ref (xa σ 23), .int (xi σ 22 0), .int (xi σ 22 1), .int (xi σ 22 2)])),
  (xa σ 23, .inl (G.2 3, 2061, .inr (.inr (.inr (.inr (xst σ)))))),
  (xa σ 24, .inr (7, [.int (xi σ 24 0), .ref (xa σ 25)])),
  (xa σ 25, .inl (G.2 0, 14000, .inl (xi σ 25))),
  (xa σ 26, .inr (7, [.int (xi σ 26 0), .ref (xa σ 27)])),
  (xa σ 27, .inl (G.2 0, 14000, .inl (xi σ 27)))] ++ pnd G σ
theorem uWC_1_rules (G : GG) (σ : St) (v : Int32) : (WC G σ).set 1 (xa σ 1, .inr (1, ([.int (xi σ 1 0), .ref (xa σ 2), .ref (xa σ 3), .ref (xa σ 4)] : List Value).set 0 (.int v))) = WC G (wi σ 1 0 v) := rfl
theorem uWC_2 (G : GG) (σ : St) (j : Nat) (x : Int32) : (WC G σ).set 2 (xa σ 2, .inl (G.2 0, 16, .inl (upd (xi σ 2) j x))) = WC G (wi σ 2 j x) := rfl
theorem uWC_3 (G : GG) (σ : St) (j : Nat) (x : Int32) : (WC G σ).set 3 (xa σ 3, .inl (G.2 0, 128, .inl (upd (xi σ 3) j x))) = WC G (wi σ 3 j x) := rfl
theorem uWC_4 (G : GG) (σ : St) (j : Nat) (x : Int32) : (WC G σ).set 4 (xa σ 4, .inl (G.2 0, 1024, .inl (upd (xi σ 4) j x))) = WC G (wi σ 4 j x) := rfl
theorem uWC_5_current (G : GG) (σ : St) (v : Int32) : (WC G σ).set 5 (xa σ 5, .inr (2, ([.ref (xa σ 1), .int (xi σ 5 0), .int (xi σ 5 1), .int (xi σ 5 2), .int (xi σ 5 3), .ref (xa σ 6), .ref (xa σ 7), .ref (xa σ 8), .ref (xa σ 9)] : List Value).set 1 (.int v))) = WC G (wi σ 5 0 v) := rfl
theorem uWC_5_fault (G : GG) (σ : St) (v : Int32) : (WC G σ).set 5 (xa σ 5, .inr (2, ([.ref (xa σ 1), .int (xi σ 5 0), .int (xi σ 5 1), .int (xi σ 5 2), .int (xi σ 5 3), .ref (xa σ 6), .ref (xa σ 7), .ref (xa σ 8), .ref (xa σ 9)] : List Value).set 2 (.int v))) = WC G (wi σ 5 1 v) := rfl
theorem uWC_5_faulty (G : GG) (σ : St) (v : Int32) : (WC G σ).set 5 (xa σ 5, .inr (2, ([.ref (xa σ 1), .int (xi σ 5 0), .int (xi σ 5 1), .int (xi σ 5 2), .int (xi σ 5 3), .ref (xa σ 6), .ref (xa σ 7), .ref (xa σ 8), .ref (xa σ 9)] : List Value).set 3 (.int v))) = WC G (wi σ 5 2 v) := rfl
theorem uWC_5_nothing (G : GG) (σ : St) (v : Int32) : (WC G σ).set 5 (xa σ 5, .inr (2, ([.ref (xa σ 1), .int (xi σ 5 0), .int (xi σ 5 1), .int (xi σ 5 2), .int (xi σ 5 3), .ref (xa σ 6), .ref (xa σ 7), .ref (xa σ 8), .ref (xa σ 9)] : List Value).set 4 (.int v))) = WC G (wi σ 5 3 v) := rfl
theorem uWC_6 (G : GG) (σ : St) (j : Nat) (x : Int32) : (WC G σ).set 6 (xa σ 6, .inl (G.2 0, 16, .inl (upd (xi σ 6) j x))) = WC G (wi σ 6 j x) := rfl
theorem uWC_7 (G : GG) (σ : St) (j : Nat) (x : Int32) : (WC G σ).set 7 (xa σ 7, .inl (G.2 0, 16, .inl (upd (xi σ 7) j x))) = WC G (wi σ 7 j x) := rfl
theorem uWC_8 (G : GG) (σ : St) (j : Nat) (x : Int64) : (WC G σ).set 8 (xa σ 8, .inl (G.2 1, 16, .inr (.inl (vp_updL (xl σ 8) j x)))) = WC G (wl σ 8 j x) := rfl
theorem uWC_9 (G : GG) (σ : St) (j : Nat) (x : Int64) : (WC G σ).set 9 (xa σ 9, .inl (G.2 1, 16, .inr (.inl (vp_updL (xl σ 9) j x)))) = WC G (wl σ 9 j x) := rfl
theorem uWC_10_size (G : GG) (σ : St) (v : Int32) : (WC G σ).set 10 (xa σ 10, .inr (3, ([.int (xi σ 10 0), .ref (xa σ 11)] : List Value).set 0 (.int v))) = WC G (wi σ 10 0 v) := rfl
theorem uWC_11 (G : GG) (σ : St) (j : Nat) (x : Int32) : (WC G σ).set 11 (xa σ 11, .inl (G.2 0, 60, .inl (upd (xi σ 11) j x))) = WC G (wi σ 11 j x) := rfl
theorem uWC_12_end (G : GG) (σ : St) (v : Int32) : (WC G σ).set 12 (xa σ 12, .inr (4, ([.ref (xa σ 1), .ref (xa σ 5), .ref (xa σ 10), .int (xi σ 12 0), .ref (xa σ 13), .ref (xa σ 14), .ref (xa σ 15), .ref (xa σ 16), .ref (xa σ 17), .ref (xa σ 18), .long (xl σ 12 0), .int (xi σ 12 1), .long (xl σ 12 1)] : List Value).set 3 (.int v))) = WC G (wi σ 12 0 v) := rfl
theorem uWC_12_here (G : GG) (σ : St) (v : Int64) : (WC G σ).set 12 (xa σ 12, .inr (4, ([.ref (xa σ 1), .ref (xa σ 5), .ref (xa σ 10), .int (xi σ 12 0), .ref (xa σ 13), .ref (xa σ 14), .ref (xa σ 15), .ref (xa σ 16), .ref (xa σ 17), .ref (xa σ 18), .long (xl σ 12 0), .int (xi σ 12 1), .long (xl σ 12 1)] : List Value).set 10 (.long v))) = WC G (wl σ 12 0 v) := rfl
theorem uWC_12_far (G : GG) (σ : St) (v : Int32) : (WC G σ).set 12 (xa σ 12, .inr (4, ([.ref (xa σ 1), .ref (xa σ 5), .ref (xa σ 10), .int (xi σ 12 0), .ref (xa σ 13), .ref (xa σ 14), .ref (xa σ 15), .ref (xa σ 16), .ref (xa σ 17), .ref (xa σ 18), .long (xl σ 12 0), .int (xi σ 12 1), .long (xl σ 12 1)] : List Value).set 11 (.int v))) = WC G (wi σ 12 1 v) := rfl
theorem uWC_12_soon (G : GG) (σ : St) (v : Int64) : (WC G σ).set 12 (xa σ 12, .inr (4, ([.ref (xa σ 1), .ref (xa σ 5), .ref (xa σ 10), .int (xi σ 12 0), .ref (xa σ 13), .ref (xa σ 14), .ref (xa σ 15), .ref (xa σ 16), .ref (xa σ 17), .ref (xa σ 18), .long (xl σ 12 0), .int (xi σ 12 1), .long (xl σ 12 1)] : List Value).set 12 (.long v))) = WC G (wl σ 12 1 v) := rfl
theorem uWC_13 (G : GG) (σ : St) (j : Nat) (x : Int64) : (WC G σ).set 13 (xa σ 13, .inl (G.2 1, 32, .inr (.inl (vp_updL (xl σ 13) j x)))) = WC G (wl σ 13 j x) := rfl
theorem uWC_14 (G : GG) (σ : St) (j : Nat) (x : Int64) : (WC G σ).set 14 (xa σ 14, .inl (G.2 1, 7808, .inr (.inl (vp_updL (xl σ 14) j x)))) = WC G (wl σ 14 j x) := rfl
theorem uWC_15 (G : GG) (σ : St) (j : Nat) (x : Int32) : (WC G σ).set 15 (xa σ 15, .inl (G.2 0, 7808, .inl (upd (xi σ 15) j x))) = WC G (wi σ 15 j x) := rfl
theorem uWC_16 (G : GG) (σ : St) (j : Nat) (x : Int64) : (WC G σ).set 16 (xa σ 16, .inl (G.2 1, 976, .inr (.inl (vp_updL (xl σ 16) j x)))) = WC G (wl σ 16 j x) := rfl
theorem uWC_17 (G : GG) (σ : St) (j : Nat) (x : Int32) : (WC G σ).set 17 (xa σ 17, .inl (G.2 0, 976, .inl (upd (xi σ 17) j x))) = WC G (wi σ 17 j x) := rfl
theorem uWC_18 (G : GG) (σ : St) (j : Nat) (x : Int64) : (WC G σ).set 18 (xa σ 18, .inl (G.2 1, 976, .inr (.inl (vp_updL (xl σ 18) j x)))) = WC G (wl σ 18 j x) := rfl
theorem uWC_20 (G : GG) (σ : St) (j : Nat) (x : Int32) : (WC G σ).set 20 (xa σ 20, .inl (G.2 0, 59536, .inl (upd (xi σ 20) j x))) = WC G (wi σ 20 j x) := rfl
theorem uWC_21 (G : GG) (σ : St) (j : Nat) (x : Int64) : (WC G σ).set 21 (xa σ 21, .inl (G.2 1, 61, .inr (.inl (vp_updL (xl σ 21) j x)))) = WC G (wl σ 21 j x) := rfl
theorem uWC_22_pending (G : GG) (σ : St) (v : Int32) : (WC G σ).set 22 (xa σ 22, .inr (6, ([.ref (xa σ 1), .ref (xa σ 10), .ref (xa σ 12), .ref (xa σ 23), .int (xi σ 22 0), .int (xi σ 22 1), .int (xi σ 22 2)] : List Value).set 4 (.int v))) = WC G (wi σ 22 0 v) := rfl
theorem uWC_22_place (G : GG) (σ : St) (v : Int32) : (WC G σ).set 22 (xa σ 22, .inr (6, ([.ref (xa σ 1), .ref (xa σ 10), .ref (xa σ 12), .ref (xa σ 23), .int (xi σ 22 0), .int (xi σ 22 1), .int (xi σ 22 2)] : List Value).set 5 (.int v))) = WC G (wi σ 22 1 v) := rfl
theorem uWC_22_nodesDue (G : GG) (σ : St) (v : Int32) : (WC G σ).set 22 (xa σ 22, .inr (6, ([.ref (xa σ 1), .ref (xa σ 10), .ref (xa σ 12), .ref (xa σ 23), .int (xi σ 22 0), .int (xi σ 22 1), .int (xi σ 22 2)] : List Value).set 6 (.int v))) = WC G (wi σ 22 2 v) := rfl
theorem uWC_24_size (G : GG) (σ : St) (v : Int32) : (WC G σ).set 24 (xa σ 24, .inr (7, ([.int (xi σ 24 0), .ref (xa σ 25)] : List Value).set 0 (.int v))) = WC G (wi σ 24 0 v) := rfl
theorem uWC_25 (G : GG) (σ : St) (j : Nat) (x : Int32) : (WC G σ).set 25 (xa σ 25, .inl (G.2 0, 14000, .inl (upd (xi σ 25) j x))) = WC G (wi σ 25 j x) := rfl
theorem uWC_26_size (G : GG) (σ : St) (v : Int32) : (WC G σ).set 26 (xa σ 26, .inr (7, ([.int (xi σ 26 0), .ref (xa σ 27)] : List Value).set 0 (.int v))) = WC G (wi σ 26 0 v) := rfl
theorem uWC_27 (G : GG) (σ : St) (j : Nat) (x : Int32) : (WC G σ).set 27 (xa σ 27, .inl (G.2 0, 14000, .inl (upd (xi σ 27) j x))) = WC G (wi σ 27 j x) := rfl
def WM (G : GG) (σ : St) : va_W := [(xa σ 0, .inr (9, [.int (xi σ 0 0), .int (xi σ 0 1), .ref (xa σ 1), .ref (xa σ 2), .ref (xa σ 3), .ref (xa σ 4), .ref (xa σ 5), .ref (xa σ 6), .int (xi σ 0 2), .ref (xa σ 7), .int (xi σ 0 3), .ref (xa σ 8), .ref (xa σ 9), .ref (xa σ 10), .ref (xa σ 11), .ref (xa σ 12), .ref (xa σ 13), .ref (xa σ 14), .ref (xa σ 15), .int (xi σ 0 4), .ref (xa σ 16), .ref (xa σ 17), .int (xi σ 0 5), .int (xi σ 0 6), .ref (xa σ 18), .ref (xa σ 19), .ref (xa σ 20), .int (xi σ 0 7)])),
  (xa σ 1, .inl (G.2 0, 16, .inl (xi σ 1))),
  (xa σ 2, .inl (G.2 0, 128, .inl (xi σ 2))),
  (xa σ 3, .inl (G.2 0, 1024, .inl (xi σ 3))),
  (xa σ 4, .inl (G.2 2, 16, .inl (xi σ 4))),
  (xa σ 5, .inl (G.2 2, 256, .inl (xi σ 5))),
  (xa σ 6, .inl (G.2 0, 16, .inl (xi σ 6))),
  (xa σ 7, .inl (G.2 0, 60, .inl (xi σ 7))),
  (xa σ 8, .inl (G.2 1, 976, .inr (.inl (xl σ 8)))),
  (xa σ 9, .inl (G.2 0, 976, .inl (xi σ 9))),
  (xa σ 10, .inl (G.2 1, 976, .inr (.inl (xl σ 10)))),
  (xa σ 11, .inl (G.2 1, 59536, .inr (.inl (xl σ 11)))),
  (xa σ 12, .inl (G.2 1, 61, .inr (.inl (xl σ 12)))),
  (xa σ 13, .inl (G.2 1, 61, .inr (.inl (xl σ 13)))),
  (xa σ 14, .inl (G.2 1, 16, .inr (.inl (xl σ 14)))),
  (xa σ 15, .inl (G.2 1, 16, .inr (.inl (xl σ 15)))),
  (xa σ 16, .inl (G.2 0, 14000, .inl (xi σ 16))),
  (xa σ 17, .inl (G.2 0, 14007, .inl (xi σ 17))),
  (xa σ 18, .inl (G.2 0, 20000, .inl (xi σ 18))),
  (xa σ 19, .inl (G.2 0, 20000, .inl (xi σ 19))),
  (xa σ 20, .inl (G.2 1, 20000, .inr (.inl (xl σ 20))))]
theorem uWM_0_thrown (G : GG) (σ : St) (v : Int32) : (WM G σ).set 0 (xa σ 0, .inr (9, ([.int (xi σ 0 0), .int (xi σ 0 1), .ref (xa σ 1), .ref (xa σ 2), .ref (xa σ 3), .ref (xa σ 4), .ref (xa σ 5), .ref (xa σ 6), .int (xi σ 0 2), .ref (xa σ 7), .int (xi σ 0 3), .ref (xa σ 8), .ref (xa σ 9), .ref (xa σ 10), .ref (xa σ 11), .ref (xa σ 12), .ref (xa σ 13), .ref (xa σ 14), .ref (xa σ 15), .int (xi σ 0 4), .ref (xa σ 16), .ref (xa σ 17), .int (xi σ 0 5), .int (xi σ 0 6), .ref (xa σ 18), .ref (xa σ 19), .ref (xa σ 20), .int (xi σ 0 7)] : List Value).set 0 (.int v))) = WM G (wi σ 0 0 v) := rfl
theorem uWM_0_rules (G : GG) (σ : St) (v : Int32) : (WM G σ).set 0 (xa σ 0, .inr (9, ([.int (xi σ 0 0), .int (xi σ 0 1), .ref (xa σ 1), .ref (xa σ 2), .ref (xa σ 3), .ref (xa σ 4), .ref (xa σ 5), .ref (xa σ 6), .int (xi σ 0 2), .ref (xa σ 7), .int (xi σ 0 3), .ref (xa σ 8), .ref (xa σ 9), .ref (xa σ 10), .ref (xa σ 11), .ref (xa σ 12), .ref (xa σ 13), .ref (xa σ 14), .ref (xa σ 15), .int (xi σ 0 4), .ref (xa σ 16), .ref (xa σ 17), .int (xi σ 0 5), .int (xi σ 0 6), .ref (xa σ 18), .ref (xa σ 19), .ref (xa σ 20), .int (xi σ 0 7)] : List Value).set 1 (.int v))) = WM G (wi σ 0 1 v) := rfl
theorem uWM_0_faultyRule (G : GG) (σ : St) (v : Int32) : (WM G σ).set 0 (xa σ 0, .inr (9, ([.int (xi σ 0 0), .int (xi σ 0 1), .ref (xa σ 1), .ref (xa σ 2), .ref (xa σ 3), .ref (xa σ 4), .ref (xa σ 5), .ref (xa σ 6), .int (xi σ 0 2), .ref (xa σ 7), .int (xi σ 0 3), .ref (xa σ 8), .ref (xa σ 9), .ref (xa σ 10), .ref (xa σ 11), .ref (xa σ 12), .ref (xa σ 13), .ref (xa σ 14), .ref (xa σ 15), .int (xi σ 0 4), .ref (xa σ 16), .ref (xa σ 17), .int (xi σ 0 5), .int (xi σ 0 6), .ref (xa σ 18), .ref (xa σ 19), .ref (xa σ 20), .int (xi σ 0 7)] : List Value).set 8 (.int v))) = WM G (wi σ 0 2 v) := rfl
theorem uWM_0_length (G : GG) (σ : St) (v : Int32) : (WM G σ).set 0 (xa σ 0, .inr (9, ([.int (xi σ 0 0), .int (xi σ 0 1), .ref (xa σ 1), .ref (xa σ 2), .ref (xa σ 3), .ref (xa σ 4), .ref (xa σ 5), .ref (xa σ 6), .int (xi σ 0 2), .ref (xa σ 7), .int (xi σ 0 3), .ref (xa σ 8), .ref (xa σ 9), .ref (xa σ 10), .ref (xa σ 11), .ref (xa σ 12), .ref (xa σ 13), .ref (xa σ 14), .ref (xa σ 15), .int (xi σ 0 4), .ref (xa σ 16), .ref (xa σ 17), .int (xi σ 0 5), .int (xi σ 0 6), .ref (xa σ 18), .ref (xa σ 19), .ref (xa σ 20), .int (xi σ 0 7)] : List Value).set 10 (.int v))) = WM G (wi σ 0 3 v) := rfl
theorem uWM_0_nodes (G : GG) (σ : St) (v : Int32) : (WM G σ).set 0 (xa σ 0, .inr (9, ([.int (xi σ 0 0), .int (xi σ 0 1), .ref (xa σ 1), .ref (xa σ 2), .ref (xa σ 3), .ref (xa σ 4), .ref (xa σ 5), .ref (xa σ 6), .int (xi σ 0 2), .ref (xa σ 7), .int (xi σ 0 3), .ref (xa σ 8), .ref (xa σ 9), .ref (xa σ 10), .ref (xa σ 11), .ref (xa σ 12), .ref (xa σ 13), .ref (xa σ 14), .ref (xa σ 15), .int (xi σ 0 4), .ref (xa σ 16), .ref (xa σ 17), .int (xi σ 0 5), .int (xi σ 0 6), .ref (xa σ 18), .ref (xa σ 19), .ref (xa σ 20), .int (xi σ 0 7)] : List Value).set 19 (.int v))) = WM G (wi σ 0 4 v) := rfl
theorem uWM_0_madeNodes (G : GG) (σ : St) (v : Int32) : (WM G σ).set 0 (xa σ 0, .inr (9, ([.int (xi σ 0 0), .int (xi σ 0 1), .ref (xa σ 1), .ref (xa σ 2), .ref (xa σ 3), .ref (xa σ 4), .ref (xa σ 5), .ref (xa σ 6), .int (xi σ 0 2), .ref (xa σ 7), .int (xi σ 0 3), .ref (xa σ 8), .ref (xa σ 9), .ref (xa σ 10), .ref (xa σ 11), .ref (xa σ 12), .ref (xa σ 13), .ref (xa σ 14), .ref (xa σ 15), .int (xi σ 0 4), .ref (xa σ 16), .ref (xa σ 17), .int (xi σ 0 5), .int (xi σ 0 6), .ref (xa σ 18), .ref (xa σ 19), .ref (xa σ 20), .int (xi σ 0 7)] : List Value).set 22 (.int v))) = WM G (wi σ 0 5 v) := rfl
theorem uWM_0_high (G : GG) (σ : St) (v : Int32) : (WM G σ).set 0 (xa σ 0, .inr (9, ([.int (xi σ 0 0), .int (xi σ 0 1), .ref (xa σ 1), .ref (xa σ 2), .ref (xa σ 3), .ref (xa σ 4), .ref (xa σ 5), .ref (xa σ 6), .int (xi σ 0 2), .ref (xa σ 7), .int (xi σ 0 3), .ref (xa σ 8), .ref (xa σ 9), .ref (xa σ 10), .ref (xa σ 11), .ref (xa σ 12), .ref (xa σ 13), .ref (xa σ 14), .ref (xa σ 15), .int (xi σ 0 4), .ref (xa σ 16), .ref (xa σ 17), .int (xi σ 0 5), .int (xi σ 0 6), .ref (xa σ 18), .ref (xa σ 19), .ref (xa σ 20), .int (xi σ 0 7)] : List Value).set 23 (.int v))) = WM G (wi σ 0 6 v) := rfl
theorem uWM_0_farthest (G : GG) (σ : St) (v : Int32) : (WM G σ).set 0 (xa σ 0, .inr (9, ([.int (xi σ 0 0), .int (xi σ 0 1), .ref (xa σ 1), .ref (xa σ 2), .ref (xa σ 3), .ref (xa σ 4), .ref (xa σ 5), .ref (xa σ 6), .int (xi σ 0 2), .ref (xa σ 7), .int (xi σ 0 3), .ref (xa σ 8), .ref (xa σ 9), .ref (xa σ 10), .ref (xa σ 11), .ref (xa σ 12), .ref (xa σ 13), .ref (xa σ 14), .ref (xa σ 15), .int (xi σ 0 4), .ref (xa σ 16), .ref (xa σ 17), .int (xi σ 0 5), .int (xi σ 0 6), .ref (xa σ 18), .ref (xa σ 19), .ref (xa σ 20), .int (xi σ 0 7)] : List Value).set 27 (.int v))) = WM G (wi σ 0 7 v) := rfl
theorem uWM_1 (G : GG) (σ : St) (j : Nat) (x : Int32) : (WM G σ).set 1 (xa σ 1, .inl (G.2 0, 16, .inl (upd (xi σ 1) j x))) = WM G (wi σ 1 j x) := rfl
theorem uWM_2 (G : GG) (σ : St) (j : Nat) (x : Int32) : (WM G σ).set 2 (xa σ 2, .inl (G.2 0, 128, .inl (upd (xi σ 2) j x))) = WM G (wi σ 2 j x) := rfl
theorem uWM_3 (G : GG) (σ : St) (j : Nat) (x : Int32) : (WM G σ).set 3 (xa σ 3, .inl (G.2 0, 1024, .inl (upd (xi σ 3) j x))) = WM G (wi σ 3 j x) := rfl
theorem uWM_4 (G : GG) (σ : St) (j : Nat) (x : Int32) : (WM G σ).set 4 (xa σ 4, .inl (G.2 2, 16, .inl (upd (xi σ 4) j x))) = WM G (wi σ 4 j x) := rfl
theorem uWM_5 (G : GG) (σ : St) (j : Nat) (x : Int32) : (WM G σ).set 5 (xa σ 5, .inl (G.2 2, 256, .inl (upd (xi σ 5) j x))) = WM G (wi σ 5 j x) := rfl
theorem uWM_6 (G : GG) (σ : St) (j : Nat) (x : Int32) : (WM G σ).set 6 (xa σ 6, .inl (G.2 0, 16, .inl (upd (xi σ 6) j x))) = WM G (wi σ 6 j x) := rfl
theorem uWM_7 (G : GG) (σ : St) (j : Nat) (x : Int32) : (WM G σ).set 7 (xa σ 7, .inl (G.2 0, 60, .inl (upd (xi σ 7) j x))) = WM G (wi σ 7 j x) := rfl
theorem uWM_8 (G : GG) (σ : St) (j : Nat) (x : Int64) : (WM G σ).set 8 (xa σ 8, .inl (G.2 1, 976, .inr (.inl (vp_updL (xl σ 8) j x)))) = WM G (wl σ 8 j x) := rfl
theorem uWM_9 (G : GG) (σ : St) (j : Nat) (x : Int32) : (WM G σ).set 9 (xa σ 9, .inl (G.2 0, 976, .inl (upd (xi σ 9) j x))) = WM G (wi σ 9 j x) := rfl
theorem uWM_10 (G : GG) (σ : St) (j : Nat) (x : Int64) : (WM G σ).set 10 (xa σ 10, .inl (G.2 1, 976, .inr (.inl (vp_updL (xl σ 10) j x)))) = WM G (wl σ 10 j x) := rfl
theorem uWM_11 (G : GG) (σ : St) (j : Nat) (x : Int64) : (WM G σ).set 11 (xa σ 11, .inl (G.2 1, 59536, .inr (.inl (vp_updL (xl σ 11) j x)))) = WM G (wl σ 11 j x) := rfl
theorem uWM_12 (G : GG) (σ : St) (j : Nat) (x : Int64) : (WM G σ).set 12 (xa σ 12, .inl (G.2 1, 61, .inr (.inl (vp_updL (xl σ 12) j x)))) = WM G (wl σ 12 j x) := rfl
theorem uWM_13 (G : GG) (σ : St) (j : Nat) (x : Int64) : (WM G σ).set 13 (xa σ 13, .inl (G.2 1, 61, .inr (.inl (vp_updL (xl σ 13) j x)))) = WM G (wl σ 13 j x) := rfl
theorem uWM_14 (G : GG) (σ : St) (j : Nat) (x : Int64) : (WM G σ).set 14 (xa σ 14, .inl (G.2 1, 16, .inr (.inl (vp_updL (xl σ 14) j x)))) = WM G (wl σ 14 j x) := rfl
theorem uWM_15 (G : GG) (σ : St) (j : Nat) (x : Int64) : (WM G σ).set 15 (xa σ 15, .inl (G.2 1, 16, .inr (.inl (vp_updL (xl σ 15) j x)))) = WM G (wl σ 15 j x) := rfl
theorem uWM_16 (G : GG) (σ : St) (j : Nat) (x : Int32) : (WM G σ).set 16 (xa σ 16, .inl (G.2 0, 14000, .inl (upd (xi σ 16) j x))) = WM G (wi σ 16 j x) := rfl
theorem uWM_17 (G : GG) (σ : St) (j : Nat) (x : Int32) : (WM G σ).set 17 (xa σ 17, .inl (G.2 0, 14007, .inl (upd (xi σ 17) j x))) = WM G (wi σ 17 j x) := rfl
theorem uWM_18 (G : GG) (σ : St) (j : Nat) (x : Int32) : (WM G σ).set 18 (xa σ 18, .inl (G.2 0, 20000, .inl (upd (xi σ 18) j x))) = WM G (wi σ 18 j x) := rfl
theorem uWM_19 (G : GG) (σ : St) (j : Nat) (x : Int32) : (WM G σ).set 19 (xa σ 19, .inl (G.2 0, 20000, .inl (upd (xi σ 19) j x))) = WM G (wi σ 19 j x) := rfl
theorem uWM_20 (G : GG) (σ : St) (j : Nat) (x : Int64) : (WM G σ).set 20 (xa σ 20, .inl (G.2 1, 20000, .inr (.inl (vp_updL (xl σ 20) j x)))) = WM G (wl σ 20 j x) := rfl
theorem xi_wi (σ : St) (k i : Nat) (v : Int32) (k' i' : Nat) : xi (wi σ k i v) k' i' = if k' = k ∧ i' = i then v else xi σ k' i' := by
  show (if k' = k then upd (σ.2.1 k') i v else σ.2.1 k') i' = _
  by_cases h : k' = k
  · by_cases h2 : i' = i
    · simp [h, h2, upd]
    · simp [h, h2, upd]
  · simp [h]
theorem xl_wl (σ : St) (k i : Nat) (v : Int64) (k' i' : Nat) : xl (wl σ k i v) k' i' = if k' = k ∧ i' = i then v else xl σ k' i' := by
  show (if k' = k then vp_updL (σ.2.2.1 k') i v else σ.2.2.1 k') i' = _
  by_cases h : k' = k
  · by_cases h2 : i' = i
    · simp [h, h2, vp_updL]
    · simp [h, h2, vp_updL]
  · simp [h]
theorem xi_wl (σ : St) (k i : Nat) (v : Int64) : xi (wl σ k i v) = xi σ := rfl
theorem xl_wi (σ : St) (k i : Nat) (v : Int32) : xl (wi σ k i v) = xl σ := rfl
theorem xi_wp (σ : St) (k i : Nat) (v : Int32) : xi (wp σ k i v) = xi σ := rfl
theorem xl_wp (σ : St) (k i : Nat) (v : Int32) : xl (wp σ k i v) = xl σ := rfl
theorem xa_wi (σ : St) (k i : Nat) (v : Int32) : xa (wi σ k i v) = xa σ := rfl
theorem xa_wl (σ : St) (k i : Nat) (v : Int64) : xa (wl σ k i v) = xa σ := rfl
theorem xa_wp (σ : St) (k i : Nat) (v : Int32) : xa (wp σ k i v) = xa σ := rfl
theorem xn_wi (σ : St) (k i : Nat) (v : Int32) : xn (wi σ k i v) = xn σ := rfl
theorem xn_wl (σ : St) (k i : Nat) (v : Int64) : xn (wl σ k i v) = xn σ := rfl
theorem xn_wp (σ : St) (k i : Nat) (v : Int32) : xn (wp σ k i v) = xn σ := rfl
theorem xp_wi (σ : St) (k i : Nat) (v : Int32) : xp (wi σ k i v) = xp σ := rfl
theorem xp_wl (σ : St) (k i : Nat) (v : Int64) : xp (wl σ k i v) = xp σ := rfl
theorem fl_G_21 : FL "FirstTrees$Grammar" 21 1 "FirstTrees$Grammar" Tq_G 4 0 := ⟨in_G, rfl, by decide, ws_t 34 (by decide +kernel) (by decide +kernel)⟩
theorem fl_G_9 : FL "FirstTrees$Grammar" 9 1 "FirstTrees$Grammar" Tq_G 4 1 := ⟨in_G, rfl, by decide, ws_t 35 (by decide +kernel) (by decide +kernel)⟩
theorem fl_G_15 : FL "FirstTrees$Grammar" 15 1 "FirstTrees$Grammar" Tq_G 4 2 := ⟨in_G, rfl, by decide, ws_t 36 (by decide +kernel) (by decide +kernel)⟩
theorem fl_G_18 : FL "FirstTrees$Grammar" 18 1 "FirstTrees$Grammar" Tq_G 4 3 := ⟨in_G, rfl, by decide, ws_t 37 (by decide +kernel) (by decide +kernel)⟩
theorem fl_S_25 : FL "FirstTrees$Study" 25 2 "FirstTrees$Study" Tq_S 9 0 := ⟨in_S, rfl, by decide, ws_t 54 (by decide +kernel) (by decide +kernel)⟩
theorem fl_S_29 : FL "FirstTrees$Study" 29 2 "FirstTrees$Study" Tq_S 9 1 := ⟨in_S, rfl, by decide, ws_t 55 (by decide +kernel) (by decide +kernel)⟩
theorem fl_S_42 : FL "FirstTrees$Study" 42 2 "FirstTrees$Study" Tq_S 9 2 := ⟨in_S, rfl, by decide, ws_t 56 (by decide +kernel) (by decide +kernel)⟩
theorem fl_S_55 : FL "FirstTrees$Study" 55 2 "FirstTrees$Study" Tq_S 9 3 := ⟨in_S, rfl, by decide, ws_t 57 (by decide +kernel) (by decide +kernel)⟩
theorem fl_S_58 : FL "FirstTrees$Study" 58 2 "FirstTrees$Study" Tq_S 9 4 := ⟨in_S, rfl, by decide, ws_t 58 (by decide +kernel) (by decide +kernel)⟩
theorem fl_S_9 : FL "FirstTrees$Study" 9 2 "FirstTrees$Study" Tq_S 9 5 := ⟨in_S, rfl, by decide, ws_t 59 (by decide +kernel) (by decide +kernel)⟩
theorem fl_S_15 : FL "FirstTrees$Study" 15 2 "FirstTrees$Study" Tq_S 9 6 := ⟨in_S, rfl, by decide, ws_t 60 (by decide +kernel) (by decide +kernel)⟩
theorem fl_S_18 : FL "FirstTrees$Study" 18 2 "FirstTrees$Study" Tq_S 9 7 := ⟨in_S, rfl, by decide, ws_t 61 (by decide +kernel) (by decide +kernel)⟩
theorem fl_S_22 : FL "FirstTrees$Study" 22 2 "FirstTrees$Study" Tq_S 9 8 := ⟨in_S, rfl, by decide, ws_t 62 (by decide +kernel) (by decide +kernel)⟩
theorem fl_I_15 : FL "FirstTrees$Input" 15 3 "FirstTrees$Input" Tq_I 2 0 := ⟨in_I, rfl, by decide, ws_t 89 (by decide +kernel) (by decide +kernel)⟩
theorem fl_I_9 : FL "FirstTrees$Input" 9 3 "FirstTrees$Input" Tq_I 2 1 := ⟨in_I, rfl, by decide, ws_t 90 (by decide +kernel) (by decide +kernel)⟩
theorem fl_C_31 : FL "FirstTrees$Chart" 31 4 "FirstTrees$Chart" Tq_C 13 0 := ⟨in_C, rfl, by decide, ws_t 102 (by decide +kernel) (by decide +kernel)⟩
theorem fl_C_35 : FL "FirstTrees$Chart" 35 4 "FirstTrees$Chart" Tq_C 13 1 := ⟨in_C, rfl, by decide, ws_t 103 (by decide +kernel) (by decide +kernel)⟩
theorem fl_C_39 : FL "FirstTrees$Chart" 39 4 "FirstTrees$Chart" Tq_C 13 2 := ⟨in_C, rfl, by decide, ws_t 104 (by decide +kernel) (by decide +kernel)⟩
theorem fl_C_43 : FL "FirstTrees$Chart" 43 4 "FirstTrees$Chart" Tq_C 13 3 := ⟨in_C, rfl, by decide, ws_t 105 (by decide +kernel) (by decide +kernel)⟩
theorem fl_C_9 : FL "FirstTrees$Chart" 9 4 "FirstTrees$Chart" Tq_C 13 4 := ⟨in_C, rfl, by decide, ws_t 106 (by decide +kernel) (by decide +kernel)⟩
theorem fl_C_15 : FL "FirstTrees$Chart" 15 4 "FirstTrees$Chart" Tq_C 13 5 := ⟨in_C, rfl, by decide, ws_t 107 (by decide +kernel) (by decide +kernel)⟩
theorem fl_C_18 : FL "FirstTrees$Chart" 18 4 "FirstTrees$Chart" Tq_C 13 6 := ⟨in_C, rfl, by decide, ws_t 108 (by decide +kernel) (by decide +kernel)⟩
theorem fl_C_22 : FL "FirstTrees$Chart" 22 4 "FirstTrees$Chart" Tq_C 13 7 := ⟨in_C, rfl, by decide, ws_t 109 (by decide +kernel) (by decide +kernel)⟩
theorem fl_C_25 : FL "FirstTrees$Chart" 25 4 "FirstTrees$Chart" Tq_C 13 8 := ⟨in_C, rfl, by decide, ws_t 110 (by decide +kernel) (by decide +kernel)⟩
theorem fl_C_28 : FL "FirstTrees$Chart" 28 4 "FirstTrees$Chart" Tq_C 13 9 := ⟨in_C, rfl, by decide, ws_t 111 (by decide +kernel) (by decide +kernel)⟩
theorem fl_C_88 : FL "FirstTrees$Chart" 88 4 "FirstTrees$Chart" Tq_C 13 10 := ⟨in_C, rfl, by decide, ws_t 112 (by decide +kernel) (by decide +kernel)⟩
theorem fl_C_92 : FL "FirstTrees$Chart" 92 4 "FirstTrees$Chart" Tq_C 13 11 := ⟨in_C, rfl, by decide, ws_t 113 (by decide +kernel) (by decide +kernel)⟩
theorem fl_C_100 : FL "FirstTrees$Chart" 100 4 "FirstTrees$Chart" Tq_C 13 12 := ⟨in_C, rfl, by decide, ws_t 114 (by decide +kernel) (by decide +kernel)⟩
theorem fl_Y_20 : FL "FirstTrees$Ways" 20 5 "FirstTrees$Ways" Tq_Y 6 0 := ⟨in_Y, rfl, by decide, ws_t 149 (by decide +kernel) (by decide +kernel)⟩
theorem fl_Y_24 : FL "FirstTrees$Ways" 24 5 "FirstTrees$Ways" Tq_Y 6 1 := ⟨in_Y, rfl, by decide, ws_t 150 (by decide +kernel) (by decide +kernel)⟩
theorem fl_Y_28 : FL "FirstTrees$Ways" 28 5 "FirstTrees$Ways" Tq_Y 6 2 := ⟨in_Y, rfl, by decide, ws_t 151 (by decide +kernel) (by decide +kernel)⟩
theorem fl_Y_32 : FL "FirstTrees$Ways" 32 5 "FirstTrees$Ways" Tq_Y 6 3 := ⟨in_Y, rfl, by decide, ws_t 152 (by decide +kernel) (by decide +kernel)⟩
theorem fl_Y_10 : FL "FirstTrees$Ways" 10 5 "FirstTrees$Ways" Tq_Y 6 4 := ⟨in_Y, rfl, by decide, ws_t 153 (by decide +kernel) (by decide +kernel)⟩
theorem fl_Y_16 : FL "FirstTrees$Ways" 16 5 "FirstTrees$Ways" Tq_Y 6 5 := ⟨in_Y, rfl, by decide, ws_t 154 (by decide +kernel) (by decide +kernel)⟩
theorem fl_K_17 : FL "FirstTrees$Walk" 17 6 "FirstTrees$Walk" Tq_K 7 0 := ⟨in_K, rfl, by decide, ws_t 176 (by decide +kernel) (by decide +kernel)⟩
theorem fl_K_21 : FL "FirstTrees$Walk" 21 6 "FirstTrees$Walk" Tq_K 7 1 := ⟨in_K, rfl, by decide, ws_t 177 (by decide +kernel) (by decide +kernel)⟩
theorem fl_K_25 : FL "FirstTrees$Walk" 25 6 "FirstTrees$Walk" Tq_K 7 2 := ⟨in_K, rfl, by decide, ws_t 178 (by decide +kernel) (by decide +kernel)⟩
theorem fl_K_13 : FL "FirstTrees$Walk" 13 6 "FirstTrees$Walk" Tq_K 7 3 := ⟨in_K, rfl, by decide, ws_t 179 (by decide +kernel) (by decide +kernel)⟩
theorem fl_K_48 : FL "FirstTrees$Walk" 48 6 "FirstTrees$Walk" Tq_K 7 4 := ⟨in_K, rfl, by decide, ws_t 180 (by decide +kernel) (by decide +kernel)⟩
theorem fl_K_34 : FL "FirstTrees$Walk" 34 6 "FirstTrees$Walk" Tq_K 7 5 := ⟨in_K, rfl, by decide, ws_t 181 (by decide +kernel) (by decide +kernel)⟩
theorem fl_K_38 : FL "FirstTrees$Walk" 38 6 "FirstTrees$Walk" Tq_K 7 6 := ⟨in_K, rfl, by decide, ws_t 182 (by decide +kernel) (by decide +kernel)⟩
theorem fl_T_15 : FL "FirstTrees$Tree" 15 7 "FirstTrees$Tree" Tq_T 2 0 := ⟨in_T, rfl, by decide, ws_t 204 (by decide +kernel) (by decide +kernel)⟩
theorem fl_T_11 : FL "FirstTrees$Tree" 11 7 "FirstTrees$Tree" Tq_T 2 1 := ⟨in_T, rfl, by decide, ws_t 205 (by decide +kernel) (by decide +kernel)⟩
theorem fl_F_12 : FL "FirstTrees" 12 0 "FirstTrees" Tq_F 8 0 := ⟨in_F, rfl, by decide, ws_t 211 (by decide +kernel) (by decide +kernel)⟩
theorem fl_F_21 : FL "FirstTrees" 21 0 "FirstTrees" Tq_F 8 1 := ⟨in_F, rfl, by decide, ws_t 212 (by decide +kernel) (by decide +kernel)⟩
theorem fl_F_28 : FL "FirstTrees" 28 0 "FirstTrees" Tq_F 8 2 := ⟨in_F, rfl, by decide, ws_t 213 (by decide +kernel) (by decide +kernel)⟩
theorem fl_F_37 : FL "FirstTrees" 37 0 "FirstTrees" Tq_F 8 3 := ⟨in_F, rfl, by decide, ws_t 214 (by decide +kernel) (by decide +kernel)⟩
theorem fl_F_46 : FL "FirstTrees" 46 0 "FirstTrees" Tq_F 8 4 := ⟨in_F, rfl, by decide, ws_t 215 (by decide +kernel) (by decide +kernel)⟩
theorem fl_F_55 : FL "FirstTrees" 55 0 "FirstTrees" Tq_F 8 5 := ⟨in_F, rfl, by decide, ws_t 216 (by decide +kernel) (by decide +kernel)⟩
theorem fl_F_62 : FL "FirstTrees" 62 0 "FirstTrees" Tq_F 8 6 := ⟨in_F, rfl, by decide, ws_t 217 (by decide +kernel) (by decide +kernel)⟩
theorem fl_F_66 : FL "FirstTrees" 66 0 "FirstTrees" Tq_F 8 7 := ⟨in_F, rfl, by decide, ws_t 218 (by decide +kernel) (by decide +kernel)⟩
theorem fl_P_9 : FL "FirstTrees$Pending" 9 8 "FirstTrees$Pending" Tq_P 3 2 := ⟨in_P, rfl, by decide, ws_t 652 (by decide +kernel) (by decide +kernel)⟩
theorem fl_M_73 : FL "FirstTreesModel" 73 9 "FirstTreesModel" Tq_M 28 0 := ⟨in_M, rfl, by decide, ws_t 892 (by decide +kernel) (by decide +kernel)⟩
theorem fl_M_89 : FL "FirstTreesModel" 89 9 "FirstTreesModel" Tq_M 28 1 := ⟨in_M, rfl, by decide, ws_t 893 (by decide +kernel) (by decide +kernel)⟩
theorem fl_M_7 : FL "FirstTreesModel" 7 9 "FirstTreesModel" Tq_M 28 2 := ⟨in_M, rfl, by decide, ws_t 894 (by decide +kernel) (by decide +kernel)⟩
theorem fl_M_13 : FL "FirstTreesModel" 13 9 "FirstTreesModel" Tq_M 28 3 := ⟨in_M, rfl, by decide, ws_t 895 (by decide +kernel) (by decide +kernel)⟩
theorem fl_M_16 : FL "FirstTreesModel" 16 9 "FirstTreesModel" Tq_M 28 4 := ⟨in_M, rfl, by decide, ws_t 896 (by decide +kernel) (by decide +kernel)⟩
theorem fl_M_19 : FL "FirstTreesModel" 19 9 "FirstTreesModel" Tq_M 28 5 := ⟨in_M, rfl, by decide, ws_t 897 (by decide +kernel) (by decide +kernel)⟩
theorem fl_M_23 : FL "FirstTreesModel" 23 9 "FirstTreesModel" Tq_M 28 6 := ⟨in_M, rfl, by decide, ws_t 898 (by decide +kernel) (by decide +kernel)⟩
theorem fl_M_26 : FL "FirstTreesModel" 26 9 "FirstTreesModel" Tq_M 28 7 := ⟨in_M, rfl, by decide, ws_t 899 (by decide +kernel) (by decide +kernel)⟩
theorem fl_M_96 : FL "FirstTreesModel" 96 9 "FirstTreesModel" Tq_M 28 8 := ⟨in_M, rfl, by decide, ws_t 900 (by decide +kernel) (by decide +kernel)⟩
theorem fl_M_29 : FL "FirstTreesModel" 29 9 "FirstTreesModel" Tq_M 28 9 := ⟨in_M, rfl, by decide, ws_t 901 (by decide +kernel) (by decide +kernel)⟩
theorem fl_M_105 : FL "FirstTreesModel" 105 9 "FirstTreesModel" Tq_M 28 10 := ⟨in_M, rfl, by decide, ws_t 902 (by decide +kernel) (by decide +kernel)⟩
theorem fl_M_32 : FL "FirstTreesModel" 32 9 "FirstTreesModel" Tq_M 28 11 := ⟨in_M, rfl, by decide, ws_t 903 (by decide +kernel) (by decide +kernel)⟩
theorem fl_M_36 : FL "FirstTreesModel" 36 9 "FirstTreesModel" Tq_M 28 12 := ⟨in_M, rfl, by decide, ws_t 904 (by decide +kernel) (by decide +kernel)⟩
theorem fl_M_39 : FL "FirstTreesModel" 39 9 "FirstTreesModel" Tq_M 28 13 := ⟨in_M, rfl, by decide, ws_t 905 (by decide +kernel) (by decide +kernel)⟩
theorem fl_M_43 : FL "FirstTreesModel" 43 9 "FirstTreesModel" Tq_M 28 14 := ⟨in_M, rfl, by decide, ws_t 906 (by decide +kernel) (by decide +kernel)⟩
theorem fl_M_46 : FL "FirstTreesModel" 46 9 "FirstTreesModel" Tq_M 28 15 := ⟨in_M, rfl, by decide, ws_t 907 (by decide +kernel) (by decide +kernel)⟩
theorem fl_M_49 : FL "FirstTreesModel" 49 9 "FirstTreesModel" Tq_M 28 16 := ⟨in_M, rfl, by decide, ws_t 908 (by decide +kernel) (by decide +kernel)⟩
theorem fl_M_52 : FL "FirstTreesModel" 52 9 "FirstTreesModel" Tq_M 28 17 := ⟨in_M, rfl, by decide, ws_t 909 (by decide +kernel) (by decide +kernel)⟩
theorem fl_M_55 : FL "FirstTreesModel" 55 9 "FirstTreesModel" Tq_M 28 18 := ⟨in_M, rfl, by decide, ws_t 910 (by decide +kernel) (by decide +kernel)⟩
theorem fl_M_158 : FL "FirstTreesModel" 158 9 "FirstTreesModel" Tq_M 28 19 := ⟨in_M, rfl, by decide, ws_t 911 (by decide +kernel) (by decide +kernel)⟩
theorem fl_M_58 : FL "FirstTreesModel" 58 9 "FirstTreesModel" Tq_M 28 20 := ⟨in_M, rfl, by decide, ws_t 912 (by decide +kernel) (by decide +kernel)⟩
theorem fl_M_61 : FL "FirstTreesModel" 61 9 "FirstTreesModel" Tq_M 28 21 := ⟨in_M, rfl, by decide, ws_t 913 (by decide +kernel) (by decide +kernel)⟩
theorem fl_M_135 : FL "FirstTreesModel" 135 9 "FirstTreesModel" Tq_M 28 22 := ⟨in_M, rfl, by decide, ws_t 914 (by decide +kernel) (by decide +kernel)⟩
theorem fl_M_132 : FL "FirstTreesModel" 132 9 "FirstTreesModel" Tq_M 28 23 := ⟨in_M, rfl, by decide, ws_t 915 (by decide +kernel) (by decide +kernel)⟩
theorem fl_M_64 : FL "FirstTreesModel" 64 9 "FirstTreesModel" Tq_M 28 24 := ⟨in_M, rfl, by decide, ws_t 916 (by decide +kernel) (by decide +kernel)⟩
theorem fl_M_67 : FL "FirstTreesModel" 67 9 "FirstTreesModel" Tq_M 28 25 := ⟨in_M, rfl, by decide, ws_t 917 (by decide +kernel) (by decide +kernel)⟩
theorem fl_M_70 : FL "FirstTreesModel" 70 9 "FirstTreesModel" Tq_M 28 26 := ⟨in_M, rfl, by decide, ws_t 918 (by decide +kernel) (by decide +kernel)⟩
theorem fl_M_108 : FL "FirstTreesModel" 108 9 "FirstTreesModel" Tq_M 28 27 := ⟨in_M, rfl, by decide, ws_t 919 (by decide +kernel) (by decide +kernel)⟩
theorem pl_F_tree : PL 0 "FirstTrees" Tq_F 8 6 (.object "FirstTrees$Tree") := ⟨tq_F, ty_F, nm_F, rfl, by decide +kernel⟩
theorem pl_F_spare : PL 0 "FirstTrees" Tq_F 8 7 (.object "FirstTrees$Tree") := ⟨tq_F, ty_F, nm_F, rfl, by decide +kernel⟩
theorem pl_G_rules : PL 1 "FirstTrees$Grammar" Tq_G 4 0 .int := ⟨tq_G, ty_G, nm_G, rfl, by decide +kernel⟩
theorem pl_S_current : PL 2 "FirstTrees$Study" Tq_S 9 1 .boolean := ⟨tq_S, ty_S, nm_S, rfl, by decide +kernel⟩
theorem pl_S_fault : PL 2 "FirstTrees$Study" Tq_S 9 2 .int := ⟨tq_S, ty_S, nm_S, rfl, by decide +kernel⟩
theorem pl_S_faulty : PL 2 "FirstTrees$Study" Tq_S 9 3 .int := ⟨tq_S, ty_S, nm_S, rfl, by decide +kernel⟩
theorem pl_S_nothing : PL 2 "FirstTrees$Study" Tq_S 9 4 .int := ⟨tq_S, ty_S, nm_S, rfl, by decide +kernel⟩
theorem pl_I_size : PL 3 "FirstTrees$Input" Tq_I 2 0 .int := ⟨tq_I, ty_I, nm_I, rfl, by decide +kernel⟩
theorem pl_C_end : PL 4 "FirstTrees$Chart" Tq_C 13 3 .int := ⟨tq_C, ty_C, nm_C, rfl, by decide +kernel⟩
theorem pl_C_here : PL 4 "FirstTrees$Chart" Tq_C 13 10 .long := ⟨tq_C, ty_C, nm_C, rfl, by decide +kernel⟩
theorem pl_C_far : PL 4 "FirstTrees$Chart" Tq_C 13 11 .int := ⟨tq_C, ty_C, nm_C, rfl, by decide +kernel⟩
theorem pl_C_soon : PL 4 "FirstTrees$Chart" Tq_C 13 12 .long := ⟨tq_C, ty_C, nm_C, rfl, by decide +kernel⟩
theorem pl_K_pending : PL 6 "FirstTrees$Walk" Tq_K 7 4 .int := ⟨tq_K, ty_K, nm_K, rfl, by decide +kernel⟩
theorem pl_K_place : PL 6 "FirstTrees$Walk" Tq_K 7 5 .int := ⟨tq_K, ty_K, nm_K, rfl, by decide +kernel⟩
theorem pl_K_nodesDue : PL 6 "FirstTrees$Walk" Tq_K 7 6 .int := ⟨tq_K, ty_K, nm_K, rfl, by decide +kernel⟩
theorem pl_T_size : PL 7 "FirstTrees$Tree" Tq_T 2 0 .int := ⟨tq_T, ty_T, nm_T, rfl, by decide +kernel⟩
theorem pl_P_symbol : PL 8 "FirstTrees$Pending" Tq_P 3 0 .int := ⟨tq_P, ty_P, nm_P, rfl, by decide +kernel⟩
theorem pl_P_above : PL 8 "FirstTrees$Pending" Tq_P 3 1 .int := ⟨tq_P, ty_P, nm_P, rfl, by decide +kernel⟩
theorem pl_M_thrown : PL 9 "FirstTreesModel" Tq_M 28 0 .int := ⟨tq_M, ty_M, nm_M, rfl, by decide +kernel⟩
theorem pl_M_rules : PL 9 "FirstTreesModel" Tq_M 28 1 .int := ⟨tq_M, ty_M, nm_M, rfl, by decide +kernel⟩
theorem pl_M_faultyRule : PL 9 "FirstTreesModel" Tq_M 28 8 .int := ⟨tq_M, ty_M, nm_M, rfl, by decide +kernel⟩
theorem pl_M_length : PL 9 "FirstTreesModel" Tq_M 28 10 .int := ⟨tq_M, ty_M, nm_M, rfl, by decide +kernel⟩
theorem pl_M_nodes : PL 9 "FirstTreesModel" Tq_M 28 19 .int := ⟨tq_M, ty_M, nm_M, rfl, by decide +kernel⟩
theorem pl_M_madeNodes : PL 9 "FirstTreesModel" Tq_M 28 22 .int := ⟨tq_M, ty_M, nm_M, rfl, by decide +kernel⟩
theorem pl_M_high : PL 9 "FirstTreesModel" Tq_M 28 23 .int := ⟨tq_M, ty_M, nm_M, rfl, by decide +kernel⟩
theorem pl_M_farthest : PL 9 "FirstTreesModel" Tq_M 28 27 .int := ⟨tq_M, ty_M, nm_M, rfl, by decide +kernel⟩
