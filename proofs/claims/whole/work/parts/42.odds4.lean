/-! ===== odds: the model ===== -/
def pc_n (a : Nat) : Nat → Nat
  | 0 => 0
  | i + 1 => pc_n a i + (bif a.testBit i then 1 else 0)
theorem pc_n6 : ∀ a, a < 64 → pc_n a 6 = pc6 a := by decide +kernel
theorem pc_top {a n : Nat} (ha : a < 2 ^ n) (n6 : n ≤ 6) : pc_n a n = pc6 a := by
  have hp := pow_le6 n6
  rw [← pc_n6 a (by omega)]
  have : ∀ k, pc_n a (n + k) = pc_n a n := by
    intro k
    induction k with
    | zero => rfl
    | succ k ih =>
      rw [show n + (k + 1) = n + k + 1 by omega, pc_n, ih, Nat.testBit_lt_two_pow (Nat.lt_of_lt_of_le ha (Nat.pow_le_pow_right (by decide) (by omega)))]
      rfl
  have := this (6 - n)
  rw [show n + (6 - n) = 6 by omega] at this
  exact this.symm
/-- the ways of one set, hand by hand -/
def wyN (a x t : Nat) : Nat → Nat
  | 0 => 1
  | i + 1 => wyN a x t i * (bif a.testBit i then (bif t.testBit i then x else 10 - x) else 1)
theorem wyN_eq {a x t : Nat} (hs : ∀ h, h < 6 → t.testBit h = true → a.testBit h = true) (hx : ∀ h, h < 6 → (a ^^^ t).testBit h = (a.testBit h && !t.testBit h)) : ∀ i, i ≤ 6 → wyN a x t i = x ^ pc_n t i * (10 - x) ^ pc_n (a ^^^ t) i
  | 0, _ => rfl
  | i + 1, hi => by
    rw [wyN, wyN_eq hs hx i (by omega), pc_n, pc_n, hx i (by omega)]
    cases ea : a.testBit i with
    | false =>
      have et : t.testBit i = false := by
        cases et : t.testBit i with
        | false => rfl
        | true => rw [hs i (by omega) et] at ea; cases ea
      rw [et]
      simp
    | true =>
      cases et : t.testBit i with
      | true => simp [Nat.pow_succ]; rw [Nat.mul_right_comm]
      | false => simp [Nat.pow_succ]; rw [Nat.mul_assoc]
