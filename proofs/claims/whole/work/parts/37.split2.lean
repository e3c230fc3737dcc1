/-! ===== split: the class ===== -/
def lpre (f : Nat → Int32) : Nat → Option Value
  | 0 => none
  | i + 1 => some (.int (f i))
theorem spUp_false {a : Nat} {b : Nat → Nat} {t i n : Nat} (h : spUp a b t i = false) (hi : i ≤ n) : spUp a b t n = false := by
  induction n with
  | zero => rw [Nat.le_zero.mp hi] at h; exact h
  | succ n ih =>
    by_cases z : i = n + 1
    · rw [← z]; exact h
    · rw [spUp, ih (by omega), Bool.false_and]
theorem cx_allStay {d rot n a t : Nat} {b : Nat → Nat} {M : AM} {L : AL} {Q : QT} (hn : M 1 0 = nI n) (n6 : n ≤ 6) (ha : M 9 0 = nI a) (a64 : a < 64) (t64 : t < 64) (hta : a &&& t = t) (hb : ∀ i, i < n → M 5 i = nI (b i) ∧ b i < 64)
    (hq : Q (some (.int (bI (spUp a b t n)))) (Sx rot) M L) : CW E7_allStay (d + 1) 0 [.ref 0, .int (nI t)] (Sx rot) M L Q := by
  have key : ∀ k, k ≤ n → spUp a b t (n - k) = true → AW E7_allStay (d + 1) 0 (Sx rot).length Q 14 [some (.ref 0), some (.int (nI t)), some (.int (M 9 0 &&& (nI t ^^^ -1))), some (.int (nI (n - k))), lpre (M 5) (n - k), lpre (fun i => fBit (M 5 i &&& nI t)) (n - k), lpre (fun i => fBit (M 5 i &&& (M 9 0 &&& (nI t ^^^ -1)))) (n - k)] [] (Sx rot) M L 0 := by
    intro k
    induction k with
    | zero =>
      intro _ hs
      rw [Nat.sub_zero] at hs ⊢
      rw [hs] at hq
      refine aw_run ok7_allStay (at1 14) 60 ?_
      refine ifT (c := M 1 0 ≤ nI n) (by rw [hn]; exact Int32.le_refl _) ?_
      exact hq
    | succ k ih =>
      intro hk hs
      obtain ⟨i, hi⟩ : ∃ i, n - k = i + 1 := ⟨n - k - 1, by omega⟩
      rw [hi] at ih
      rw [show n - (k + 1) = i by omega] at hs ⊢
      have hin : i < n := by omega
      have ih := ih (by omega)
      rw [nI_succ] at ih
      obtain ⟨s1, s2⟩ := sub_nI a a64 t t64 hta
      obtain ⟨i1, i2⟩ := in_sub a a64 t t64 hta i (by omega)
      have xl := xor_lt a a64 t t64
      obtain ⟨b1, b2⟩ := hb i hin
      have ft := fAb_nI t t64 i (by omega)
      have fx := fAb_nI (a ^^^ t) xl i (by omega)
      have q1 : fBit (M 5 i &&& nI t) = nI (pc6 (b i &&& t)) := by rw [b1, and_nI _ b2 _ t64, bit_nI _ (and_lt64 b2)]
      have q2 : fBit (M 5 i &&& (M 9 0 &&& (nI t ^^^ -1))) = nI (pc6 (b i &&& (a ^^^ t))) := by rw [ha, s1, b1, and_nI _ b2 _ xl, bit_nI _ (and_lt64 b2)]
      have good : stB a (b i) i t = true → spUp a b t (i + 1) = true := fun e => by rw [spUp, hs, e]; rfl
      have bad : stB a (b i) i t = false → Q (some (.int 0)) (Sx rot) M L := fun e => by
        have : spUp a b t (i + 1) = false := by rw [spUp, e, Bool.and_false]
        rw [spUp_false this (by omega)] at hq
        exact hq
      refine aw_run ok7_allStay (at1 14) 60 ?_
      refine ifF (c := M 1 0 ≤ nI i) (by rw [hn]; exact nI_ge hin (by omega)) ?_
      refine inBI (n := 6) i rfl (by omega) ?_
      refine cx_bitCount ?_
      refine cx_bitCount ?_
      refine cw_isIn ?_
      rw [fIsIn_nI (by omega)]
      cases et : t.testBit i with
      | true =>
        rw [et] at ft
        have ft : fAb (nI t) (nI i) = 1 := ft
        have st : stB a (b i) i t = decide (pc6 (b i &&& (a ^^^ t)) ≤ pc6 (b i &&& t)) := by unfold stB; rw [et]; rfl
        rw [st] at good bad
        have fx : fAb (M 9 0 &&& (nI t ^^^ -1)) (nI i) = 0 := by
          rw [ha, s1, fx, i2, et]
          cases a.testBit i <;> rfl
        refine ifF (c := fAb (nI t) (nI i) = 0) (by rw [ft]; decide) ?_
        refine iteI (fun (e2 : fBit (M 5 i &&& nI t) < fBit (M 5 i &&& (M 9 0 &&& (nI t ^^^ -1)))) => ?_) (fun (e2 : ¬ fBit (M 5 i &&& nI t) < fBit (M 5 i &&& (M 9 0 &&& (nI t ^^^ -1)))) => ?_)
        · rw [q1, q2, pc_cmp (and_lt64 b2) (and_lt64 b2)] at e2
          exact bad (decide_eq_false e2)
        · rw [q1, q2, pc_cmp (and_lt64 b2) (and_lt64 b2)] at e2
          refine cw_isIn ?_
          rw [fIsIn_nI (by omega)]
          refine ifT fx ?_
          exact ih (good (decide_eq_true (Classical.byContradiction e2)))
      | false =>
        rw [et] at ft
        have ft : fAb (nI t) (nI i) = 0 := ft
        refine ifT (c := fAb (nI t) (nI i) = 0) ft ?_
        refine cw_isIn ?_
        rw [fIsIn_nI (by omega)]
        cases ea : a.testBit i with
        | false =>
          have fx : fAb (M 9 0 &&& (nI t ^^^ -1)) (nI i) = 0 := by
            rw [ha, s1, fx, i2, et, ea]; rfl
          refine ifT fx ?_
          exact ih (good (by unfold stB; rw [et, ea]; rfl))
        | true =>
          have fx : ¬ fAb (M 9 0 &&& (nI t ^^^ -1)) (nI i) = 0 := by
            rw [ha, s1, fx, i2, et, ea]; decide
          have st : stB a (b i) i t = decide (pc6 (b i &&& t) ≤ pc6 (b i &&& (a ^^^ t))) := by unfold stB; rw [et, ea]; rfl
          rw [st] at good bad
          refine ifF fx ?_
          refine iteI (fun (e2 : fBit (M 5 i &&& nI t) ≤ fBit (M 5 i &&& (M 9 0 &&& (nI t ^^^ -1)))) => ?_) (fun (e2 : ¬ fBit (M 5 i &&& nI t) ≤ fBit (M 5 i &&& (M 9 0 &&& (nI t ^^^ -1)))) => ?_)
          · have e3 := Int32.not_lt.mpr e2
            rw [q1, q2, pc_cmp (and_lt64 b2) (and_lt64 b2)] at e3
            exact ih (good (decide_eq_true (Classical.byContradiction e3)))
          · have e3 := Int32.not_le.mp e2
            rw [q1, q2, pc_cmp (and_lt64 b2) (and_lt64 b2)] at e3
            exact bad (decide_eq_false e3)
  have k0 := key n (Nat.le_refl n) (by rw [Nat.sub_self]; rfl)
  rw [Nat.sub_self] at k0
  refine cw_ent ok7_allStay (at1 14) 60 ?_
  exact k0
