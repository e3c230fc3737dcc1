/-! ===== sets of at most six, and votes ===== -/
def pc6 (a : Nat) : Nat := a % 2 + a / 2 % 2 + a / 4 % 2 + a / 8 % 2 + a / 16 % 2 + a / 32 % 2
theorem many_nI : ∀ a, a < 64 → manyUp (nI a) 6 = nI (pc6 a) := by decide +kernel
theorem bit_nI : ∀ a, a < 64 → fBit (nI a) = nI (pc6 a) := by decide +kernel
theorem and_nI : ∀ a, a < 64 → ∀ b, b < 64 → nI a &&& nI b = nI (a &&& b) := by decide +kernel
theorem or_nI : ∀ i, i < 6 → ∀ x, x < 64 → x < 2 ^ i → nI x ||| (1 : Int32) <<< (nI i &&& 31) = nI (x + 2 ^ i) := by decide +kernel
theorem pc6_add : ∀ i, i < 6 → ∀ x, x < 64 → x < 2 ^ i → ∀ a, a < 64 → pc6 ((x + 2 ^ i) &&& a) = pc6 (x &&& a) + (if a.testBit i then 1 else 0) := by decide +kernel
theorem and_add : ∀ i, i < 6 → ∀ x, x < 64 → x < 2 ^ i → ∀ a, a < 64 → (x + 2 ^ i) &&& a = (x &&& a) + (if a.testBit i then 2 ^ i else 0) := by decide +kernel
theorem pc6_le : ∀ a, a < 64 → pc6 a ≤ 6 := by decide +kernel
/-- those who like h, of the first i -/
def lkN (b : Nat → Nat) (h : Nat) : Nat → Nat
  | 0 => 0
  | i + 1 => if (b i).testBit h then lkN b h i + 2 ^ i else lkN b h i
theorem lkN_lt (b : Nat → Nat) (h : Nat) : ∀ i, lkN b h i < 2 ^ i
  | 0 => Nat.one_pos
  | i + 1 => by
    have := lkN_lt b h i
    unfold lkN
    rw [Nat.pow_succ]
    split <;> omega
theorem pow_le6 {i : Nat} (h : i ≤ 6) : 2 ^ i ≤ 64 := Nat.pow_le_pow_right (by decide) h
theorem lk_nI {lk : Nat → Int32} {b : Nat → Nat} {n h : Nat} (hh : h < 6) (hb : ∀ i, i < n → lk i = nI (b i) ∧ b i < 64) : ∀ i, i ≤ n → i ≤ 6 → lkUp lk h i = nI (lkN b h i)
  | 0, _, _ => rfl
  | i + 1, hi, h6 => by
    have ih := lk_nI hh hb i (by omega) (by omega)
    obtain ⟨e1, e2⟩ := hb i (by omega)
    have hl := lkN_lt b h i
    have hp := pow_le6 (i := i) (by omega)
    unfold lkUp lkN
    rw [ih, e1, fAb_nI _ e2 _ hh]
    cases (b i).testBit h
    · rfl
    · rw [if_neg (by decide), or_nI i (by omega) _ (by omega) hl]
      rfl
theorem vo_nI {lk : Nat → Int32} {b : Nat → Nat} {n h a : Nat} (hh : h < 6) (ha : a < 64) (hb : ∀ i, i < n → lk i = nI (b i) ∧ b i < 64) (hs : h < n → (b h).testBit h = false) : ∀ i, i ≤ n → i ≤ 6 → voUp (nI a) lk h i = nI (1 + pc6 (lkN b h i &&& a))
  | 0, _, _ => by
    unfold lkN
    rw [Nat.zero_and]
    rfl
  | i + 1, hi, h6 => by
    have ih := vo_nI hh ha hb hs i (by omega) (by omega)
    obtain ⟨e1, e2⟩ := hb i (by omega)
    have hl := lkN_lt b h i
    have hp := pow_le6 (i := i) (by omega)
    have key : fVo (nI a) lk h i = if (b i).testBit h then (if a.testBit i then 1 else 0) else 0 := by
      have e3 := fAb_nI _ e2 _ hh
      unfold fVo
      rw [fAb_nI a ha i (by omega)]
      by_cases hi2 : i = h
      · subst hi2
        rw [if_pos rfl, hs (by omega)]
        rfl
      · rw [if_neg (fun z => hi2 ((nI_eq (by omega) (by omega)).mp z))]
        rw [← e1] at e3
        unfold fAb at e3
        cases h1 : a.testBit i
        · rw [if_pos (show (if false = true then (1 : Int32) else 0) = 0 from rfl)]
          cases (b i).testBit h <;> rfl
        · rw [if_neg (by decide)]
          cases h2 : (b i).testBit h
          · rw [h2] at e3
            rw [if_neg (fun z => by rw [if_pos z] at e3; exact absurd e3 (by decide))]
            rfl
          · rw [h2] at e3
            rw [if_pos (Classical.byContradiction fun z => by rw [if_neg z] at e3; exact absurd e3 (by decide))]
            rfl
    unfold voUp lkN
    rw [ih, key]
    cases h2 : (b i).testBit h
    · rw [if_neg (by decide), if_neg (by decide), Int32.add_zero]
    · rw [if_pos rfl, if_pos rfl, pc6_add i (by omega) _ (by omega) hl a ha]
      cases a.testBit i
      · rw [if_neg (by decide), if_neg (by decide), Int32.add_zero, Nat.add_zero]
      · rw [if_pos rfl, if_pos rfl, nI_1, Nat.add_assoc]
theorem lack_dec : ∀ p, p ≤ 6 → ∀ q, q ≤ 6 → (fMx0 (nI p / 2 + 1 - (nI q + 1)) = fStr (nI p / 2 + 1 - nI (1 + q))) ∧ ((fMx0 (nI p / 2 + 1 - (nI q + 1)) = 0) ↔ ¬ (2 * nI (1 + q) ≤ nI p)) := by decide +kernel
/-- how many are wanting, in both -/
theorem lack_eq {lk : Nat → Int32} {b : Nat → Nat} {n h a : Nat} (n6 : n ≤ 6) (hh : h < n) (ha : a < 64) (hb : ∀ i, i < n → lk i = nI (b i) ∧ b i < 64) (hs : h < n → (b h).testBit h = false) : gLack (nI a) lk n h = fStr (manyUp (nI a) 6 / 2 + 1 - voUp (nI a) lk h n) ∧ (gLack (nI a) lk n h = 0 ↔ ¬ fVoted (nI a) lk n h = 0) := by
  have hl := lkN_lt b h n
  have hp := pow_le6 n6
  have e1 := lk_nI (lk := lk) (b := b) (n := n) (h := h) (by omega) hb n (Nat.le_refl n) n6
  have e2 := vo_nI (lk := lk) (b := b) (n := n) (h := h) (a := a) (by omega) ha hb hs n (Nat.le_refl n) n6
  have hal : lkN b h n &&& a < 64 := Nat.lt_of_le_of_lt Nat.and_le_right ha
  have e3 : lkUp lk h n &&& nI a = nI (lkN b h n &&& a) := by rw [e1, and_nI _ (by omega) _ ha]
  obtain ⟨d1, d2⟩ := lack_dec (pc6 a) (pc6_le a ha) (pc6 (lkN b h n &&& a)) (pc6_le _ hal)
  have e4 : gLack (nI a) lk n h = fMx0 (nI (pc6 a) / 2 + 1 - (nI (pc6 (lkN b h n &&& a)) + 1)) := by
    unfold gLack
    rw [e3, bit_nI a ha, bit_nI _ hal]
  refine ⟨by rw [e4, e2, many_nI a ha]; exact d1, ?_⟩
  rw [e4, d2]
  unfold fVoted
  rw [e2, many_nI a ha]
  by_cases z : 2 * nI (1 + pc6 (lkN b h n &&& a)) ≤ nI (pc6 a)
  · rw [if_pos z]
    exact ⟨fun g => absurd z g, fun g => absurd rfl g⟩
  · rw [if_neg z]
    exact ⟨fun _ => by decide, fun _ => z⟩
theorem riv_eq {lk : Nat → Int32} {b : Nat → Nat} {n a : Nat} (n6 : n ≤ 6) (ha : a < 64) (hb : ∀ i, i < n → lk i = nI (b i) ∧ b i < 64) (hs : ∀ h, h < n → (b h).testBit h = false) : ∀ i, i ≤ n → grivUp (nI a) lk n i = rivUp (nI a) lk n i
  | 0, _ => rfl
  | i + 1, hi => by
    have ih := riv_eq n6 ha hb hs i (by omega)
    have h1 := (lack_eq n6 (show i < n by omega) ha hb (fun h => hs i h)).2
    unfold grivUp rivUp
    rw [ih]
    by_cases z : fAb (nI a) (nI i) = 0
    · rw [if_pos z, if_pos z, Int32.or_zero]
    · rw [if_neg z, if_neg z]
      by_cases y : gLack (nI a) lk n i = 0
      · rw [if_pos y, if_neg (h1.mp y)]
      · rw [if_neg y, if_pos (Classical.byContradiction fun g => y (h1.mpr g)), Int32.or_zero]
theorem band_eq {lk : Nat → Int32} {b : Nat → Nat} {n h a : Nat} (n6 : n ≤ 6) (hh : h < n) (ha : a < 64) (hb : ∀ i, i < n → lk i = nI (b i) ∧ b i < 64) : ∀ i, i ≤ n → bandUp (nI a) lk h i = nI (lkN b h i &&& (b h &&& a))
  | 0, _ => by
    unfold lkN
    rw [Nat.zero_and]
    rfl
  | i + 1, hi => by
    have ih := band_eq n6 hh ha hb i (by omega)
    obtain ⟨e1, e2⟩ := hb i (by omega)
    obtain ⟨f1, f2⟩ := hb h hh
    have hl := lkN_lt b h i
    have hp := pow_le6 (i := i) (by omega)
    have hm : b h &&& a < 64 := Nat.lt_of_le_of_lt Nat.and_le_right ha
    have hx : lkN b h i &&& (b h &&& a) < 2 ^ i := Nat.lt_of_le_of_lt Nat.and_le_left hl
    have g1 := fAb_nI _ e2 h (by omega)
    have g2 := fAb_nI _ f2 i (by omega)
    have g3 := fAb_nI a ha i (by omega)
    have tb : (b h &&& a).testBit i = ((b h).testBit i && a.testBit i) := Nat.testBit_and _ _ _
    have key : (if fAb (nI a) (nI i) = 0 then (0 : Int32) else if lk h >>> (nI i &&& 31) &&& 1 = 1 then (if lk i >>> (nI h &&& 31) &&& 1 = 1 then (1 : Int32) <<< (nI i &&& 31) else 0) else 0) = if (b i).testBit h && (b h &&& a).testBit i then (1 : Int32) <<< (nI i &&& 31) else 0 := by
      rw [tb, g3]
      rw [← e1] at g1
      rw [← f1] at g2
      unfold fAb at g1 g2
      cases c3 : a.testBit i
      · rw [if_pos (show (if false = true then (1 : Int32) else 0) = 0 from rfl), Bool.and_false, Bool.and_false]; rfl
      · rw [if_neg (by decide)]
        cases c2 : (b h).testBit i
        · rw [c2] at g2
          rw [if_neg (fun z => by rw [if_pos z] at g2; exact absurd g2 (by decide))]
          rw [Bool.false_and, Bool.and_false]; rfl
        · rw [c2] at g2
          rw [if_pos (Classical.byContradiction fun z => by rw [if_neg z] at g2; exact absurd g2 (by decide))]
          cases c1 : (b i).testBit h
          · rw [c1] at g1
            rw [if_neg (fun z => by rw [if_pos z] at g1; exact absurd g1 (by decide))]
            rfl
          · rw [c1] at g1
            rw [if_pos (Classical.byContradiction fun z => by rw [if_neg z] at g1; exact absurd g1 (by decide))]
            rfl
    unfold bandUp lkN
    rw [ih, key]
    cases c1 : (b i).testBit h
    · rw [Bool.false_and, if_neg (by decide), if_neg (by decide), Int32.or_zero]
    · rw [Bool.true_and, if_pos rfl, and_add i (by omega) _ (by omega) hl _ hm]
      cases (b h &&& a).testBit i
      · rw [if_neg (by decide), if_neg (by decide), Int32.or_zero, Nat.add_zero]
      · rw [if_pos rfl, if_pos rfl, or_nI i (by omega) _ (by omega) hx]
