def allB (p : Nat → Bool) : Nat → Nat → Bool
  | 0, b => p b
  | d + 1, b => allB p d (2 * b) && allB p d (2 * b + 1)
theorem allB_of {p : Nat → Bool} : ∀ d b, allB p d b = true → ∀ n, 2 ^ d * b ≤ n → n < 2 ^ d * (b + 1) → p n = true := by
  intro d
  induction d with
  | zero => intro b h n h1 h2; have e : n = b := by simp at h1 h2; omega
            rw [e]; exact h
  | succ d ih =>
    intro b h n h1 h2
    simp only [allB, Bool.and_eq_true] at h
    have e : 2 ^ (d + 1) = 2 * 2 ^ d := by rw [Nat.pow_succ, Nat.mul_comm]
    rw [e] at h1 h2
    have e1 : 2 ^ d * (2 * b) = 2 * 2 ^ d * b := by rw [Nat.mul_left_comm, ← Nat.mul_assoc]
    have e2 : 2 ^ d * (2 * b + 1 + 1) = 2 * 2 ^ d * (b + 1) := by rw [show 2 * b + 1 + 1 = 2 * (b + 1) from by omega, Nat.mul_left_comm, ← Nat.mul_assoc]
    by_cases c : n < 2 ^ d * (2 * b + 1)
    · exact ih _ h.1 n (by omega) c
    · exact ih _ h.2 n (by omega) (by omega)
def bcA (n : Nat) : Nat := Nat.sub n (Nat.land (Nat.shiftRight n 1) 1431655765)
def bcB (b : Nat) : Nat := Nat.add (Nat.land b 858993459) (Nat.land (Nat.shiftRight b 2) 858993459)
def bcC (c : Nat) : Nat := Nat.land (Nat.add c (Nat.shiftRight c 4)) 252645135
def bcD (d : Nat) : Nat := Nat.add d (Nat.shiftRight d 8)
def bcE (e : Nat) : Nat := Nat.land (Nat.add e (Nat.shiftRight e 16)) 63
def cnN : Nat → Nat → Nat
  | 0, _ => 0
  | k + 1, n => Nat.add (Nat.mod n 2) (cnN k (Nat.div n 2))
def bcN (n : Nat) : Nat := bcE (bcD (bcC (bcB (bcA n))))
theorem bcN_all : allB (fun n => Nat.beq (bcN n) (cnN 16 n)) 16 0 = true := by decide +kernel
