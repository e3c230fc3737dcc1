/-! ===== odds: the sums ===== -/
def sumN (f : Nat → Nat) : Nat → Nat
  | 0 => 0
  | n + 1 => sumN f n + f n
theorem sumN_front (f : Nat → Nat) : ∀ n, sumN f (n + 1) = f 0 + sumN (fun i => f (i + 1)) n
  | 0 => by rw [sumN, sumN, sumN, Nat.zero_add, Nat.add_zero]
  | n + 1 => by
    rw [sumN, sumN_front f n, sumN, Nat.add_assoc]
theorem sumN_congr {f g : Nat → Nat} : ∀ n, (∀ i, i < n → f i = g i) → sumN f n = sumN g n
  | 0, _ => rfl
  | n + 1, h => by rw [sumN, sumN, sumN_congr n (fun i hi => h i (by omega)), h n (by omega)]
theorem sumN_rev (f : Nat → Nat) : ∀ n, sumN (fun i => f (n - 1 - i)) n = sumN f n
  | 0 => rfl
  | n + 1 => by
    rw [sumN_front, sumN, ← sumN_rev f n, Nat.add_comm]
    congr 1
    exact sumN_congr n (fun i hi => congrArg f (by omega))
theorem sumN_up {f : Nat → Nat} {n : Nat} : ∀ k, (∀ i, n ≤ i → i < n + k → f i = 0) → sumN f (n + k) = sumN f n
  | 0, _ => rfl
  | k + 1, h => by
    rw [show n + (k + 1) = n + k + 1 by omega, sumN, sumN_up k (fun i h1 h2 => h i h1 (by omega)), h (n + k) (by omega) (by omega), Nat.add_zero]
theorem sub_xor1 : ∀ a, a < 64 → ∀ t, t < 64 → (t ≤ a ∧ a &&& t = t) → (a ^^^ t = a - t ∧ a ^^^ (a ^^^ t) = t ∧ a &&& (a ^^^ t) = a ^^^ t) := by decide +kernel
theorem sub_xor2 : ∀ a, a < 64 → ∀ t, t < 64 → (t ≤ a ∧ a &&& (a - t) = a - t) → a &&& t = t := by decide +kernel
/-- the sick: set; F the force of those who are well -/
def tmS (a x gn : Nat) (F : Nat → Nat) (t : Nat) : Nat := bif decide (a &&& t = t) && decide (gn ≤ F (a ^^^ t)) then x ^ pc6 t * (10 - x) ^ pc6 (a ^^^ t) else 0
/-- the well -/
def tmW (a x gn : Nat) (F : Nat → Nat) (t : Nat) : Nat := bif decide (a &&& t = t) && decide (gn ≤ F t) then x ^ pc6 (a ^^^ t) * (10 - x) ^ pc6 t else 0
theorem odds_rev {a x gn n : Nat} {F : Nat → Nat} (a64 : a < 64) (han : a < 2 ^ n) (n6 : n ≤ 6) : sumN (tmW a x gn F) 64 = sumN (tmS a x gn F) (2 ^ n) := by
  have hp := pow_le6 n6
  have out1 : ∀ t, a < t → tmW a x gn F t = 0 := fun t ht => by
    unfold tmW
    rw [decide_eq_false (fun e => by have : a &&& t ≤ a := Nat.and_le_left; omega), Bool.false_and]; rfl
  have out2 : ∀ t, a < t → tmS a x gn F t = 0 := fun t ht => by
    unfold tmS
    rw [decide_eq_false (fun e => by have : a &&& t ≤ a := Nat.and_le_left; omega), Bool.false_and]; rfl
  have e1 := sumN_up (f := tmW a x gn F) (n := a + 1) (63 - a) (fun i h1 h2 => out1 i (by omega))
  have e2 := sumN_up (f := tmS a x gn F) (n := a + 1) (2 ^ n - (a + 1)) (fun i h1 h2 => out2 i (by omega))
  rw [show a + 1 + (63 - a) = 64 by omega] at e1
  rw [show a + 1 + (2 ^ n - (a + 1)) = 2 ^ n by omega] at e2
  rw [e1, e2, ← sumN_rev]
  refine sumN_congr (a + 1) (fun t ht => ?_)
  have s1 := fun z => sub_xor1 a a64 t (by omega) ⟨by omega, z⟩
  have s2 := fun z => sub_xor2 a a64 t (by omega) ⟨by omega, z⟩
  show tmW a x gn F (a + 1 - 1 - t) = _
  rw [show a + 1 - 1 - t = a - t by omega]
  unfold tmW tmS
  by_cases z : a &&& t = t
  · obtain ⟨q1, q2, q3⟩ := s1 z
    rw [← q1, q2, decide_eq_true z, decide_eq_true q3]
  · rw [decide_eq_false z, decide_eq_false (fun y => z (s2 y)), Bool.false_and, Bool.false_and]
    rfl
