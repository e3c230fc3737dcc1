/-! ===== odds, side by side ===== -/
theorem fStr_sub {v w : Nat} (hv : v < 2 ^ 30) (hw : w < 2 ^ 30) : fStr (nI v - nI w) = nI (v - w) := by
  unfold fStr
  by_cases z : w ≤ v
  · rw [pk_sub z, if_pos (Int32.not_lt.mp (nI_pos (by omega)))]
  · rw [if_neg, show v - w = 0 by omega]
    · rfl
    · rw [Int32.le_iff_toInt_le, pk_sub_toInt hv hw]
      have : (0 : Int32).toInt = 0 := by decide
      omega
def FsN (st : Nat → Nat) (t : Nat) : Nat → Nat
  | 0 => 0
  | i + 1 => FsN st t i + (bif t.testBit i then st i else 0)
theorem FsN_le {st : Nat → Nat} {t B : Nat} (h : ∀ i, i < 6 → st i ≤ B) : ∀ i, i ≤ 6 → FsN st t i ≤ i * B
  | 0, _ => Nat.zero_le _
  | i + 1, hi => by
    have h1 := FsN_le (t := t) h i (by omega)
    have h2 := h i (by omega)
    rw [FsN, Nat.succ_mul]
    cases t.testBit i <;> simp <;> omega
theorem FsN_nI {f : Nat → Int32} {st : Nat → Nat} {t : Nat} (h : ∀ i, i < 6 → f i = nI (bif t.testBit i then st i else 0)) : ∀ i, i ≤ 6 → sumTo f i = nI (FsN st t i)
  | 0, _ => rfl
  | i + 1, hi => by rw [sumTo, FsN_nI h i (by omega), h i (by omega), FsN, nI_add]
