abbrev y_B : MethodName := ⟨"java/lang/Integer", "bitCount", "(I)I"⟩
abbrev c_B : ByteArray := prog_16_method_49_code
abbrev rm_B : Room := { frames := 0, cells := 0, slots := 0, locals := 0 }
theorem cf_B : CF y_B c_B 1 (some .int) 1 := ⟨ws_2 82 rfl rfl, ws_t 17 (by decide +kernel) rfl, ⟨by decide +kernel, by decide +kernel⟩, by decide +kernel⟩
theorem ci_B : Cond.static y_B ∈ WS := ws_2 81 rfl rfl
theorem k_B0 : Cond.constant "java/lang/Integer" 265 1431655765 ∈ WS := ws_2 83 rfl rfl
theorem k_B1 : Cond.constant "java/lang/Integer" 266 858993459 ∈ WS := ws_2 84 rfl rfl
theorem k_B2 : Cond.constant "java/lang/Integer" 267 252645135 ∈ WS := ws_2 85 rfl rfl
section RB
variable {K : KX} {G : GG} {w0 w : va_W} {Q : State → Prop} {own : String} {cc : ByteArray} {nL pc cells slots index : Nat} {rt : Option FieldType} {rm : Room} {lv : List (Nat × Value)} {st : List Value}
theorem b_ldcw (X : Bd K G w0 own cc nL rt rm) {v : Int32} (hc : Cond.constant own index v ∈ WS) (d : decode cc pc = .ok (.ldc_w index, 3)) (k : Lb K G w0 Q nL (pc + 3) lv (.int v :: st) w cells slots) : Lb K G w0 Q nL pc lv st w cells slots :=
  fun ls H locs hl hP hD hS => lv_ldcw X.x X.b X.ow (X.ts _ hc) d (k ls H locs hl hP hD hS)
end RB
theorem d_B_0 : decode c_B 0 = .ok (.iload_n 0, 1) := by decide +kernel
theorem d_B_1 : decode c_B 1 = .ok (.iload_n 0, 1) := by decide +kernel
theorem d_B_2 : decode c_B 2 = .ok (.iconst 1, 1) := by decide +kernel
theorem d_B_3 : decode c_B 3 = .ok (.iushr, 1) := by decide +kernel
theorem d_B_4 : decode c_B 4 = .ok (.ldc_w 265, 3) := by decide +kernel
theorem d_B_7 : decode c_B 7 = .ok (.iand, 1) := by decide +kernel
theorem d_B_8 : decode c_B 8 = .ok (.isub, 1) := by decide +kernel
theorem d_B_9 : decode c_B 9 = .ok (.istore_n 0, 1) := by decide +kernel
theorem d_B_10 : decode c_B 10 = .ok (.iload_n 0, 1) := by decide +kernel
theorem d_B_11 : decode c_B 11 = .ok (.ldc_w 266, 3) := by decide +kernel
theorem d_B_14 : decode c_B 14 = .ok (.iand, 1) := by decide +kernel
theorem d_B_15 : decode c_B 15 = .ok (.iload_n 0, 1) := by decide +kernel
theorem d_B_16 : decode c_B 16 = .ok (.iconst 2, 1) := by decide +kernel
theorem d_B_17 : decode c_B 17 = .ok (.iushr, 1) := by decide +kernel
theorem d_B_18 : decode c_B 18 = .ok (.ldc_w 266, 3) := by decide +kernel
theorem d_B_21 : decode c_B 21 = .ok (.iand, 1) := by decide +kernel
theorem d_B_22 : decode c_B 22 = .ok (.iadd, 1) := by decide +kernel
theorem d_B_23 : decode c_B 23 = .ok (.istore_n 0, 1) := by decide +kernel
theorem d_B_24 : decode c_B 24 = .ok (.iload_n 0, 1) := by decide +kernel
theorem d_B_25 : decode c_B 25 = .ok (.iload_n 0, 1) := by decide +kernel
theorem d_B_26 : decode c_B 26 = .ok (.iconst 4, 1) := by decide +kernel
theorem d_B_27 : decode c_B 27 = .ok (.iushr, 1) := by decide +kernel
theorem d_B_28 : decode c_B 28 = .ok (.iadd, 1) := by decide +kernel
theorem d_B_29 : decode c_B 29 = .ok (.ldc_w 267, 3) := by decide +kernel
theorem d_B_32 : decode c_B 32 = .ok (.iand, 1) := by decide +kernel
theorem d_B_33 : decode c_B 33 = .ok (.istore_n 0, 1) := by decide +kernel
theorem d_B_34 : decode c_B 34 = .ok (.iload_n 0, 1) := by decide +kernel
theorem d_B_35 : decode c_B 35 = .ok (.iload_n 0, 1) := by decide +kernel
theorem d_B_36 : decode c_B 36 = .ok (.bipush 8, 2) := by decide +kernel
theorem d_B_38 : decode c_B 38 = .ok (.iushr, 1) := by decide +kernel
theorem d_B_39 : decode c_B 39 = .ok (.iadd, 1) := by decide +kernel
theorem d_B_40 : decode c_B 40 = .ok (.istore_n 0, 1) := by decide +kernel
theorem d_B_41 : decode c_B 41 = .ok (.iload_n 0, 1) := by decide +kernel
theorem d_B_42 : decode c_B 42 = .ok (.iload_n 0, 1) := by decide +kernel
theorem d_B_43 : decode c_B 43 = .ok (.bipush 16, 2) := by decide +kernel
theorem d_B_45 : decode c_B 45 = .ok (.iushr, 1) := by decide +kernel
theorem d_B_46 : decode c_B 46 = .ok (.iadd, 1) := by decide +kernel
theorem d_B_47 : decode c_B 47 = .ok (.istore_n 0, 1) := by decide +kernel
theorem d_B_48 : decode c_B 48 = .ok (.iload_n 0, 1) := by decide +kernel
theorem d_B_49 : decode c_B 49 = .ok (.bipush 63, 2) := by decide +kernel
theorem d_B_51 : decode c_B 51 = .ok (.iand, 1) := by decide +kernel
theorem d_B_52 : decode c_B 52 = .ok (.ireturn, 1) := by decide +kernel
def ush (x y : Int32) : Int32 := (x.toUInt32 >>> (y.toUInt32 &&& Int32.toUInt32 31)).toInt32
def bcI1 (a : Int32) : Int32 := a - (ush a 1 &&& 1431655765)
def bcI2 (a : Int32) : Int32 := (a &&& 858993459) + (ush a 2 &&& 858993459)
def bcI3 (a : Int32) : Int32 := (a + ush a 4) &&& 252645135
def bcI4 (a : Int32) : Int32 := a + ush a 8
def bcI5 (a : Int32) : Int32 := a + ush a 16
def bc (a : Int32) : Int32 := bcI5 (bcI4 (bcI3 (bcI2 (bcI1 a)))) &&& 63
theorem ct_B (G : GG) (w : va_W) (a : Int32) : Ct y_B c_B 1 (some .int) rm_B G [.int a] w (eqp (some (.int (bc a))) w) := by
  refine Ct.of (by decide +kernel) (Nat.le_of_ble_eq_true rfl) (fun K X => ?_)
  refine b_iload_n X d_B_0 0 rfl rfl ?_
  refine b_iload_n X d_B_1 0 rfl rfl ?_
  refine b_iconst X d_B_2 (v := 1) rfl ?_
  refine b_iushr X d_B_3 (v := ush a 1) rfl ?_
  refine b_ldcw X k_B0 d_B_4 ?_
  refine b_iand X d_B_7 ?_
  refine b_isub X d_B_8 ?_
  refine b_istore_n X (lv' := [(0, .int (bcI1 a))]) d_B_9 (j := 0) rfl (by decide) [0] rfl ?_
  refine b_iload_n X d_B_10 0 rfl rfl ?_
  refine b_ldcw X k_B1 d_B_11 ?_
  refine b_iand X d_B_14 ?_
  refine b_iload_n X d_B_15 0 rfl rfl ?_
  refine b_iconst X d_B_16 (v := 2) rfl ?_
  refine b_iushr X d_B_17 (v := ush (bcI1 a) 2) rfl ?_
  refine b_ldcw X k_B1 d_B_18 ?_
  refine b_iand X d_B_21 ?_
  refine b_iadd X d_B_22 ?_
  refine b_istore_n X (lv' := [(0, .int (bcI2 (bcI1 a)))]) d_B_23 (j := 0) rfl (by decide) [0] rfl ?_
  obtain ⟨b, hb⟩ : ∃ b, b = bcI2 (bcI1 a) := ⟨_, rfl⟩
  rw [← hb]
  refine b_iload_n X d_B_24 0 rfl rfl ?_
  refine b_iload_n X d_B_25 0 rfl rfl ?_
  refine b_iconst X d_B_26 (v := 4) rfl ?_
  refine b_iushr X d_B_27 (v := ush b 4) rfl ?_
  refine b_iadd X d_B_28 ?_
  refine b_ldcw X k_B2 d_B_29 ?_
  refine b_iand X d_B_32 ?_
  refine b_istore_n X (lv' := [(0, .int (bcI3 b))]) d_B_33 (j := 0) rfl (by decide) [0] rfl ?_
  obtain ⟨c, hc⟩ : ∃ c, c = bcI3 b := ⟨_, rfl⟩
  rw [← hc]
  refine b_iload_n X d_B_34 0 rfl rfl ?_
  refine b_iload_n X d_B_35 0 rfl rfl ?_
  refine b_bipush X d_B_36 (v := 8) rfl ?_
  refine b_iushr X d_B_38 (v := ush c 8) rfl ?_
  refine b_iadd X d_B_39 ?_
  refine b_istore_n X (lv' := [(0, .int (bcI4 c))]) d_B_40 (j := 0) rfl (by decide) [0] rfl ?_
  obtain ⟨e, he⟩ : ∃ e, e = bcI4 c := ⟨_, rfl⟩
  rw [← he]
  refine b_iload_n X d_B_41 0 rfl rfl ?_
  refine b_iload_n X d_B_42 0 rfl rfl ?_
  refine b_bipush X d_B_43 (v := 16) rfl ?_
  refine b_iushr X d_B_45 (v := ush e 16) rfl ?_
  refine b_iadd X d_B_46 ?_
  refine b_istore_n X (lv' := [(0, .int (bcI5 e))]) d_B_47 (j := 0) rfl (by decide) [0] rfl ?_
  refine b_iload_n X d_B_48 0 rfl rfl ?_
  refine b_bipush X d_B_49 (v := 63) rfl ?_
  refine b_iand X d_B_51 ?_
  exact b_iret X d_B_52 ⟨by rw [he, hc, hb]; rfl, rfl⟩
def U (a : Int32) (n : Nat) : Prop := a.toUInt32.toNat = n
theorem U_lt {a : Int32} {n : Nat} (h : U a n) : n < 4294967296 := by rw [← h]; exact a.toUInt32.toNat_lt
theorem U_and {a b : Int32} {n m : Nat} (h1 : U a n) (h2 : U b m) : U (a &&& b) (Nat.land n m) := by
  unfold U at *; rw [Int32.toUInt32_and, UInt32.toNat_and, h1, h2]; rfl
theorem U_add {a b : Int32} {n m : Nat} (h1 : U a n) (h2 : U b m) (h : n + m < 4294967296) : U (a + b) (Nat.add n m) := by
  unfold U at *; rw [Int32.toUInt32_add, UInt32.toNat_add, h1, h2]; exact Nat.mod_eq_of_lt h
theorem U_sub {a b : Int32} {n m : Nat} (h1 : U a n) (h2 : U b m) (h : m ≤ n) : U (a - b) (Nat.sub n m) := by
  unfold U at *; rw [Int32.toUInt32_sub, UInt32.toNat_sub_of_le _ _ (by rw [UInt32.le_iff_toNat_le, h1, h2]; exact h), h1, h2]; rfl
theorem U_sh {a b : Int32} {n m : Nat} (h1 : U a n) (h2 : U b m) (h : m < 32) : U (ush a b) (Nat.shiftRight n m) := by
  unfold U ush at *
  have e : (b.toUInt32 &&& Int32.toUInt32 31).toNat = m := by
    rw [UInt32.toNat_and, h2, show (Int32.toUInt32 31).toNat = 2 ^ 5 - 1 from rfl, Nat.and_two_pow_sub_one_eq_mod]; omega
  rw [show ∀ x : UInt32, x.toInt32.toUInt32 = x from fun _ => rfl, UInt32.toNat_shiftRight, e, h1, Nat.mod_eq_of_lt h]; rfl
theorem U_c : U 1 1 ∧ U 2 2 ∧ U 4 4 ∧ U 8 8 ∧ U 16 16 ∧ U 63 63 ∧ U 1431655765 1431655765 ∧ U 858993459 858993459 ∧ U 252645135 252645135 := by
  unfold U; decide
theorem sh_le (n k : Nat) : Nat.shiftRight n k ≤ n := by
  show n >>> k ≤ n; rw [Nat.shiftRight_eq_div_pow]; exact Nat.div_le_self _ _
theorem land_le (n k : Nat) : Nat.land n k ≤ n := Nat.and_le_left
theorem U_bc {a : Int32} {n : Nat} (h : U a n) (hn : n < 65536) : U (bc a) (bcN n) := by
  obtain ⟨c1, c2, c4, c8, c16, c63, m1, m2, m3⟩ := U_c
  have b1 : Nat.land (Nat.shiftRight n 1) 1431655765 ≤ n := Nat.le_trans (land_le _ _) (sh_le _ _)
  have h1 : U (bcI1 a) (bcA n) := U_sub h (U_and (U_sh h c1 (by decide)) m1) b1
  have l1 : bcA n < 65536 := Nat.lt_of_le_of_lt (Nat.sub_le _ _) hn
  have q1 : Nat.land (bcA n) 858993459 ≤ bcA n := land_le _ _
  have q2 : Nat.land (Nat.shiftRight (bcA n) 2) 858993459 ≤ bcA n := Nat.le_trans (land_le _ _) (sh_le _ _)
  have h2 : U (bcI2 (bcI1 a)) (bcB (bcA n)) := U_add (U_and h1 m2) (U_and (U_sh h1 c2 (by decide)) m2) (by omega)
  have l2 : bcB (bcA n) < 131072 := by
    have : bcB (bcA n) = Nat.land (bcA n) 858993459 + Nat.land (Nat.shiftRight (bcA n) 2) 858993459 := rfl
    omega
  have q3 := sh_le (bcB (bcA n)) 4
  have h3 : U (bcI3 (bcI2 (bcI1 a))) (bcC (bcB (bcA n))) := U_and (U_add h2 (U_sh h2 c4 (by decide)) (by omega)) m3
  have l3 : bcC (bcB (bcA n)) < 262144 := Nat.lt_of_le_of_lt (land_le _ _) (show bcB (bcA n) + Nat.shiftRight (bcB (bcA n)) 4 < _ by omega)
  have q4 := sh_le (bcC (bcB (bcA n))) 8
  have h4 : U (bcI4 (bcI3 (bcI2 (bcI1 a)))) (bcD (bcC (bcB (bcA n)))) := U_add h3 (U_sh h3 c8 (by decide)) (by omega)
  have l4 : bcD (bcC (bcB (bcA n))) < 524288 := show bcC (bcB (bcA n)) + Nat.shiftRight (bcC (bcB (bcA n))) 8 < _ by omega
  have q5 := sh_le (bcD (bcC (bcB (bcA n)))) 16
  exact U_and (U_add h4 (U_sh h4 c16 (by decide)) (by omega)) c63
theorem cnt_l (f : Nat → Bool) (k : Nat) : cnt f (k + 1) = (if f 0 then 1 else 0) + cnt (fun i => f (i + 1)) k := by
  induction k with
  | zero => simp [cnt]
  | succ k ih => rw [show cnt f (k + 1 + 1) = cnt f (k + 1) + (if f (k + 1) then 1 else 0) from rfl, ih, show cnt (fun i => f (i + 1)) (k + 1) = cnt (fun i => f (i + 1)) k + (if f (k + 1) then 1 else 0) from rfl, Nat.add_assoc]
theorem cnN_cnt : ∀ k n, cnN k n = cnt (fun i => n.testBit i) k := by
  intro k
  induction k with
  | zero => intro n; rfl
  | succ k ih =>
    intro n
    rw [cnt_l, show cnN (k + 1) n = n % 2 + cnN k (n / 2) from rfl, ih (n / 2)]
    have e : (fun i => n.testBit (i + 1)) = fun i => (n / 2).testBit i := by funext i; rw [Nat.testBit_succ]
    rw [e]
    congr 1
    rw [Nat.testBit_zero]
    by_cases c : n % 2 = 1
    · simp [c]
    · simp [c]; omega
theorem U_tc {a : Int32} {n : Nat} (h : U a n) (i : Nat) : tc a i = n.testBit i := by
  rw [← h]; rfl
theorem U_self (a : Int32) : U a a.toUInt32.toNat := rfl
theorem U_nI {a : Int32} {n : Nat} (h : U a n) (hn : n < 65536) : a = nI n := by
  apply tc_ext
  intro i hi
  have e : U (nI n) n := by
    unfold U
    show (Int32.ofInt (n : Int)).toBitVec.toNat = n
    rw [Int32.toBitVec_ofInt, BitVec.toNat_ofInt]; omega
  rw [U_tc h, U_tc e]
theorem bc_cnt {a : Int32} (h : ∀ i, 16 ≤ i → tc a i = false) : bc a = nI (cnt (fun i => tc a i) 16) := by
  have hn : a.toUInt32.toNat < 65536 := by
    apply Nat.lt_pow_two_of_testBit (n := 16)
    intro i hi
    rw [← U_tc (U_self a)]; exact h i hi
  have e1 : (fun i => tc a i) = fun i => a.toUInt32.toNat.testBit i := by funext i; exact U_tc (U_self a) i
  have e2 := allB_of 16 0 bcN_all a.toUInt32.toNat (by simp) (by simpa using hn)
  have e2 : bcN a.toUInt32.toNat = cnN 16 a.toUInt32.toNat := Nat.eq_of_beq_eq_true e2
  rw [e1, ← cnN_cnt, ← e2]
  refine U_nI (U_bc (U_self a) hn) ?_
  rw [e2, cnN_cnt]
  exact Nat.lt_of_le_of_lt (cnt_le _ _) (by decide)
