/-! numbers and bit sets -/
def sI (z : Int) : Int32 := Int32.ofInt z
theorem nI_sI (n : Nat) : nI n = sI (n : Int) := rfl
theorem sI_toInt {z : Int} (h1 : -2147483648 ≤ z) (h2 : z < 2147483648) : (sI z).toInt = z := by
  unfold sI; rw [Int32.toInt_ofInt]; unfold Int.bmod; simp only [Int32.size]; omega
theorem sI_of (x : Int32) : sI x.toInt = x := by unfold sI; exact Int32.ofInt_toInt x
theorem sI_add (a b : Int) : sI a + sI b = sI (a + b) := (Int32.ofInt_add a b).symm
theorem sI_sub (a b : Int) : sI a - sI b = sI (a - b) := (Int32.ofInt_sub a b).symm
theorem sI_mul (a b : Int) : sI a * sI b = sI (a * b) := (Int32.ofInt_mul a b).symm
theorem sI_neg (a : Int) : - sI a = sI (- a) := (Int32.ofInt_neg a).symm
theorem sI_le {a b : Int} (h1 : -2147483648 ≤ a) (h2 : a < 2147483648) (h3 : -2147483648 ≤ b) (h4 : b < 2147483648) : sI a ≤ sI b ↔ a ≤ b := by
  rw [Int32.le_iff_toInt_le, sI_toInt h1 h2, sI_toInt h3 h4]
theorem sI_lt {a b : Int} (h1 : -2147483648 ≤ a) (h2 : a < 2147483648) (h3 : -2147483648 ≤ b) (h4 : b < 2147483648) : sI a < sI b ↔ a < b := by
  rw [Int32.lt_iff_toInt_lt, sI_toInt h1 h2, sI_toInt h3 h4]
theorem sI_eq {a b : Int} (h1 : -2147483648 ≤ a) (h2 : a < 2147483648) (h3 : -2147483648 ≤ b) (h4 : b < 2147483648) : sI a = sI b ↔ a = b := by
  rw [← Int32.toInt_inj, sI_toInt h1 h2, sI_toInt h3 h4]
theorem n_le {a b : Nat} (h2 : a < 2147483648) (h4 : b < 2147483648) : nI a ≤ nI b ↔ a ≤ b := by
  rw [nI_sI, nI_sI, sI_le (by omega) (by omega) (by omega) (by omega)]; omega
theorem n_lt {a b : Nat} (h2 : a < 2147483648) (h4 : b < 2147483648) : nI a < nI b ↔ a < b := by
  rw [nI_sI, nI_sI, sI_lt (by omega) (by omega) (by omega) (by omega)]; omega
theorem n_eq {a b : Nat} (h2 : a < 2147483648) (h4 : b < 2147483648) : nI a = nI b ↔ a = b := by
  rw [nI_sI, nI_sI, sI_eq (by omega) (by omega) (by omega) (by omega)]; omega
theorem n_add (a b : Nat) : nI a + nI b = nI (a + b) := by rw [nI_sI, nI_sI, nI_sI, sI_add]; congr 1
theorem n_mul (a b : Nat) : nI a * nI b = nI (a * b) := by rw [nI_sI, nI_sI, nI_sI, sI_mul]; congr 1
theorem n_sub {a b : Nat} (h : b ≤ a) : nI a - nI b = nI (a - b) := by rw [nI_sI, nI_sI, nI_sI, sI_sub]; congr 1; omega
theorem n_1 : (1 : Int32) = nI 1 := rfl
theorem n_0 : (0 : Int32) = nI 0 := rfl
theorem n_s (a : Nat) : nI a + 1 = nI (a + 1) := n_add a 1
theorem n_p {a : Nat} (h : 0 < a) : nI a - 1 = nI (a - 1) := n_sub (b := 1) h
theorem n_m1 : nI 0 - 1 = sI (-1) := rfl
/-- a symbol's rule -/
def rl (z : Int) : Nat := (-1 - z).toNat
theorem rl_sI {z : Int} (h : z < 0) : (-1 : Int32) - sI z = nI (rl z) := by
  have e : (-1 : Int32) = sI (-1) := rfl
  rw [e, sI_sub, nI_sI]; congr 1; unfold rl; omega
theorem b2i_t {P : Prop} [Decidable P] (h : P) : b2i (decide P) = 1 := by rw [decide_eq_true h]; rfl
theorem b2i_f {P : Prop} [Decidable P] (h : ¬ P) : b2i (decide P) = 0 := by rw [decide_eq_false h]; rfl
/-- bit i of a long -/
def tb (s : Int64) (i : Nat) : Bool := s.toBitVec.getLsbD i
def tc (s : Int32) (i : Nat) : Bool := s.toBitVec.getLsbD i
theorem tb_ext {a b : Int64} (h : ∀ i, i < 64 → tb a i = tb b i) : a = b := by
  apply Int64.toBitVec_inj.mp
  apply BitVec.eq_of_getLsbD_eq
  intro i hi
  exact h i hi
theorem tc_ext {a b : Int32} (h : ∀ i, i < 32 → tc a i = tc b i) : a = b := by
  apply Int32.toBitVec_inj.mp
  apply BitVec.eq_of_getLsbD_eq
  intro i hi
  exact h i hi
theorem tb_0 (i : Nat) : tb 0 i = false := by unfold tb; simp
theorem tc_0 (i : Nat) : tc 0 i = false := by unfold tc; simp
theorem tb_hi {a : Int64} {i : Nat} (h : 64 ≤ i) : tb a i = false := BitVec.getLsbD_of_ge _ _ h
theorem tc_hi {a : Int32} {i : Nat} (h : 32 ≤ i) : tc a i = false := BitVec.getLsbD_of_ge _ _ h
theorem tb_or (a b : Int64) (i : Nat) : tb (a ||| b) i = (tb a i || tb b i) := by unfold tb; simp
theorem tb_and (a b : Int64) (i : Nat) : tb (a &&& b) i = (tb a i && tb b i) := by unfold tb; simp
theorem tb_xor (a b : Int64) (i : Nat) : tb (a ^^^ b) i = (tb a i ^^ tb b i) := by unfold tb; simp
theorem tc_or (a b : Int32) (i : Nat) : tc (a ||| b) i = (tc a i || tc b i) := by unfold tc; simp
theorem tc_and (a b : Int32) (i : Nat) : tc (a &&& b) i = (tc a i && tc b i) := by unfold tc; simp
theorem shl64 : ∀ p : Fin 64, ((nI p.val).toInt64 &&& 63).toBitVec.smod 64 = BitVec.ofNat 64 p.val := by decide +kernel
theorem shl32 : ∀ p : Fin 32, ((nI p.val) &&& 31).toBitVec.smod 32 = BitVec.ofNat 32 p.val := by decide +kernel
theorem shu64 : ∀ p : Fin 64, (((nI p.val).toInt64.toUInt64 &&& Int64.toUInt64 63).toBitVec % 64) = BitVec.ofNat 64 p.val := by decide +kernel
theorem bv_shl {x : Int64} {p : Nat} (h : p < 64) : (x <<< ((nI p).toInt64 &&& 63)).toBitVec = x.toBitVec <<< p := by
  rw [Int64.toBitVec_shiftLeft, shl64 ⟨p, h⟩]
  show x.toBitVec <<< (BitVec.ofNat 64 p) = _
  rw [BitVec.shiftLeft_eq', BitVec.toNat_ofNat, Nat.mod_eq_of_lt (by omega)]
theorem bv_shr {x : Int64} {p : Nat} (h : p < 64) : (x >>> ((nI p).toInt64 &&& 63)).toBitVec = x.toBitVec.sshiftRight p := by
  rw [Int64.toBitVec_shiftRight, shl64 ⟨p, h⟩]
  show x.toBitVec.sshiftRight' (BitVec.ofNat 64 p) = _
  rw [BitVec.sshiftRight_eq', BitVec.toNat_ofNat, Nat.mod_eq_of_lt (by omega)]
theorem bv_ushr {x : Int64} {p : Nat} (h : p < 64) : (ushrL x (nI p)).toBitVec = x.toBitVec >>> p := by
  show (x.toUInt64 >>> ((nI p).toInt64.toUInt64 &&& Int64.toUInt64 63)).toBitVec = _
  rw [UInt64.toBitVec_shiftRight, shu64 ⟨p, h⟩]
  show x.toBitVec >>> (BitVec.ofNat 64 p) = _
  rw [BitVec.ushiftRight_eq', BitVec.toNat_ofNat, Nat.mod_eq_of_lt (by omega)]
theorem cv_shl {x : Int32} {p : Nat} (h : p < 32) : (x <<< ((nI p) &&& 31)).toBitVec = x.toBitVec <<< p := by
  rw [Int32.toBitVec_shiftLeft, shl32 ⟨p, h⟩]
  show x.toBitVec <<< (BitVec.ofNat 32 p) = _
  rw [BitVec.shiftLeft_eq', BitVec.toNat_ofNat, Nat.mod_eq_of_lt (by omega)]
theorem tb_shl {x : Int64} {p : Nat} (h : p < 64) (i : Nat) : tb (x <<< ((nI p).toInt64 &&& 63)) i = (decide (i < 64) && !decide (i < p) && tb x (i - p)) := by
  unfold tb; rw [bv_shl h, BitVec.getLsbD_shiftLeft]
theorem tb_ushr {x : Int64} {p : Nat} (h : p < 64) (i : Nat) : tb (ushrL x (nI p)) i = tb x (p + i) := by
  unfold tb; rw [bv_ushr h, BitVec.getLsbD_ushiftRight]
theorem tb_shr {x : Int64} {p : Nat} (h : p < 64) (i : Nat) : tb (x >>> ((nI p).toInt64 &&& 63)) i = (!decide (64 ≤ i) && if p + i < 64 then tb x (p + i) else tb x 63) := by
  unfold tb; rw [bv_shr h, BitVec.getLsbD_sshiftRight, BitVec.msb_eq_getLsbD_last]
theorem tb_1 (i : Nat) : tb 1 i = decide (i = 0) := by
  unfold tb
  show (1#64).getLsbD i = _
  rw [BitVec.getLsbD_one]; simp
theorem tc_1 (i : Nat) : tc 1 i = decide (i = 0) := by
  unfold tc
  show (1#32).getLsbD i = _
  rw [BitVec.getLsbD_one]; simp
theorem tb_sh1 {p : Nat} (h : p < 64) (i : Nat) : tb (1 <<< ((nI p).toInt64 &&& 63)) i = decide (i = p) := by
  rw [tb_shl h, tb_1]
  by_cases e : i = p
  · subst e; simp [h]
  · simp only [e, decide_false]; by_cases h2 : i < p
    · simp [h2]
    · have : ¬ i - p = 0 := by omega
      simp [this]
theorem tc_sh1 {p : Nat} (h : p < 32) (i : Nat) : tc (1 <<< ((nI p) &&& 31)) i = decide (i = p) := by
  unfold tc; rw [cv_shl h, BitVec.getLsbD_shiftLeft]
  show (decide (i < 32) && !decide (i < p) && tc 1 (i - p)) = _
  rw [tc_1]
  by_cases e : i = p
  · subst e; simp [h]
  · simp only [e, decide_false]; by_cases h2 : i < p
    · simp [h2]
    · have : ¬ i - p = 0 := by omega
      simp [this]
theorem and1 {x : Int64} : x &&& 1 = 0 ↔ tb x 0 = false := by
  constructor
  · intro h
    have := congrArg (fun y => tb y 0) h
    simpa [tb_and, tb_1, tb_0] using this
  · intro h
    apply tb_ext
    intro i _
    rw [tb_and, tb_1, tb_0]
    by_cases e : i = 0
    · subst e; rw [h]; rfl
    · simp [e]
theorem and1' {x : Int64} : x &&& 1 = 1 ↔ tb x 0 = true := by
  constructor
  · intro h
    have := congrArg (fun y => tb y 0) h
    simpa [tb_and, tb_1, tb_0] using this
  · intro h
    apply tb_ext
    intro i _
    rw [tb_and, tb_1]
    by_cases e : i = 0
    · subst e; rw [h]; rfl
    · simp [e]
theorem has0 {x : Int64} {p : Nat} (h : p < 64) : (ushrL x (nI p)) &&& 1 = 0 ↔ tb x p = false := by
  rw [and1, tb_ushr h]; rfl
theorem hasB_eq {x : Int64} {p : Nat} (h : p < 64) : hasB x (nI p) = if tb x p then 1 else 0 := by
  have e : (¬ (ushrL x (nI p)) &&& 1 = 0) ↔ tb x p = true := by rw [has0 h]; simp
  unfold hasB
  by_cases q : tb x p = true
  · rw [decide_eq_true (e.mpr q), if_pos q]; rfl
  · rw [decide_eq_false (fun z => q (e.mp z)), if_neg q]; rfl
theorem sh0 {x : Int64} {p : Nat} (h : p < 64) : (x >>> ((nI p).toInt64 &&& 63)) &&& 1 = 0 ↔ tb x p = false := by
  rw [and1, tb_shr h]; simp [h]
theorem sh1 {x : Int64} {p : Nat} (h : p < 64) : (x >>> ((nI p).toInt64 &&& 63)) &&& 1 = 1 ↔ tb x p = true := by
  rw [and1', tb_shr h]; simp [h]
theorem tb_z {x : Int64} : x = 0 ↔ ∀ i, tb x i = false := by
  constructor
  · intro h i; rw [h, tb_0]
  · intro h; apply tb_ext; intro i _; rw [h, tb_0]
theorem ushr_z {x : Int64} {p : Nat} (h : p < 64) : ushrL x (nI p) = 0 ↔ ∀ i, p ≤ i → tb x i = false := by
  rw [tb_z]
  constructor
  · intro h1 i hi
    have := h1 (i - p)
    rw [tb_ushr h, show p + (i - p) = i by omega] at this
    exact this
  · intro h1 i; rw [tb_ushr h]; exact h1 _ (by omega)
theorem shr_z {x : Int64} {p : Nat} (h : p < 64) (hx : tb x 63 = false) : (x >>> ((nI p).toInt64 &&& 63)) = 0 ↔ ∀ i, p ≤ i → tb x i = false := by
  rw [tb_z]
  constructor
  · intro h1 i hi
    by_cases h2 : i < 64
    · have := h1 (i - p)
      rw [tb_shr h, show p + (i - p) = i by omega] at this
      simpa [h2, show ¬ 64 ≤ i - p by omega] using this
    · exact tb_hi (by omega)
  · intro h1 i; rw [tb_shr h]
    split
    · rw [h1 _ (by omega)]; simp
    · rw [hx]; simp
theorem tb_i2l {x : Int32} {i : Nat} (h : i < 32) : tb x.toInt64 i = tc x i := by
  unfold tb tc
  show (x.toBitVec.signExtend 64).getLsbD i = _
  rw [BitVec.getLsbD_signExtend]; simp [h]; omega
theorem z_le {z : Int} (h1 : -2147483648 ≤ z) (h2 : z < 2147483648) : (0 : Int32) ≤ sI z ↔ 0 ≤ z := sI_le (a := 0) (by omega) (by omega) h1 h2
theorem z_lt {z : Int} (h1 : -2147483648 ≤ z) (h2 : z < 2147483648) : sI z < (0 : Int32) ↔ z < 0 := sI_lt (b := 0) h1 h2 (by omega) (by omega)
theorem tok_1 {z : Int} (h1 : -16 ≤ z) (h2 : z ≤ 31) (h : ¬ z < 0) : b2i (decide ((0 : Int32) ≤ sI z)) = 1 := b2i_t ((z_le (by omega) (by omega)).mpr (by omega))
theorem tok_0 {z : Int} (h1 : -16 ≤ z) (h2 : z ≤ 31) (h : z < 0) : b2i (decide ((0 : Int32) ≤ sI z)) = 0 := b2i_f (fun q => by have := (z_le (by omega) (by omega)).mp q; omega)
theorem n8 (a b : Nat) : nI a * 8 + nI b = nI (8 * a + b) := by
  rw [show (8 : Int32) = nI 8 from rfl, n_mul, n_add, Nat.mul_comm]
