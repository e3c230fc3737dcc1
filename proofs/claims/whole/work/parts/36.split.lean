/-! ===== split ===== -/
/-- hand h stays, a aboard, t one of the two -/
def stB (a bh h t : Nat) : Bool := bif t.testBit h then decide (pc6 (bh &&& (a ^^^ t)) ≤ pc6 (bh &&& t)) else bif a.testBit h then decide (pc6 (bh &&& t) ≤ pc6 (bh &&& (a ^^^ t))) else true
def spUp (a : Nat) (b : Nat → Nat) (t : Nat) : Nat → Bool
  | 0 => true
  | i + 1 => spUp a b t i && stB a (b i) i t
def bI (x : Bool) : Int32 := bif x then 1 else 0
theorem sub_nI : ∀ a, a < 64 → ∀ t, t < 64 → a &&& t = t → nI a &&& (nI t ^^^ -1) = nI (a ^^^ t) ∧ nI a &&& (nI (a ^^^ t) ^^^ -1) = nI t := by decide +kernel
theorem in_sub : ∀ a, a < 64 → ∀ t, t < 64 → a &&& t = t → ∀ h, h < 6 → (t.testBit h = true → a.testBit h = true) ∧ (a ^^^ t).testBit h = (a.testBit h && !t.testBit h) := by decide +kernel
theorem xor_lt : ∀ a, a < 64 → ∀ t, t < 64 → a ^^^ t < 64 := by decide +kernel
theorem bit1 : ∀ t, t < 64 → ∀ h, h < 6 → (nI t >>> (nI h &&& 31) &&& 1 = 1 ↔ t.testBit h = true) := by decide +kernel
def owI (a t h : Nat) : Int32 := bif t.testBit h then nI t else nI (a ^^^ t)
def otI (a t h : Nat) : Int32 := bif t.testBit h then nI (a ^^^ t) else nI t
theorem pc_cmp {x y : Nat} (hx : x < 64) (hy : y < 64) : (nI (pc6 y) < nI (pc6 x)) ↔ ¬ pc6 x ≤ pc6 y := by
  have h1 := pc6_le x hx
  have h2 := pc6_le y hy
  constructor
  · exact fun z w => Int32.not_le.mpr z ((nI_leI (by omega) (by omega)).mpr w)
  · exact fun z => Int32.not_le.mp (fun w => z ((nI_leI (by omega) (by omega)).mp w))
theorem and_lt64 {x y : Nat} (h : x < 64) : x &&& y < 64 := Nat.lt_of_le_of_lt Nat.and_le_left h
theorem cm_isSplit {d n a t : Nat} {b : Nat → Nat} {M : AM} {L : AL} {Q : QT} (hn : M 2 0 = nI n) (n6 : n ≤ 6) (ha : M 13 0 = nI a) (a64 : a < 64) (t64 : t < 64) (hta : a &&& t = t) (hb : ∀ i, i < n → M 6 i = nI (b i) ∧ b i < 64)
    (hq : Q (some (.int (bI (spUp a b t n)))) Sm M L) : CW E8_isSplit (d + 1) 0 [.ref 0, .int (nI t)] Sm M L Q := by
  refine cw_ent ok8_isSplit (at1 4) 60 ?_
  refine aw_loop n (fun i => [some (.ref 0), some (.int (nI t)), some (.int (bI (spUp a b t i))), some (.int (nI i)), lst (fun h => fAb (nI a) (nI h)) (owI a t) i, lst (fun h => fAb (nI a) (nI h)) (otI a t) i]) (fun _ => M) ?_ ?_
  · refine aw_run ok8_isSplit (at1 4) 60 ?_
    refine inBI 0 rfl (by decide) ?_
    refine ifT (c := M 2 0 ≤ nI n) (by rw [hn]; exact Int32.le_refl _) ?_
    cases hs : spUp a b t n with
    | true => rw [hs] at hq; exact hq
    | false => rw [hs] at hq; exact hq
  · intro i hi ih
    rw [nI_succ] at ih
    obtain ⟨s1, s2⟩ := sub_nI a a64 t t64 hta
    obtain ⟨i1, i2⟩ := in_sub a a64 t t64 hta i (by omega)
    have xl := xor_lt a a64 t t64
    obtain ⟨b1, b2⟩ := hb i hi
    have fa := fAb_nI a a64 i (by omega)
    have bt := bit1 t t64 i (by omega)
    refine aw_run ok8_isSplit (at1 4) 60 ?_
    refine inBI 0 rfl (by decide) ?_
    refine ifF (c := M 2 0 ≤ nI i) (by rw [hn]; exact nI_ge hi (by omega)) ?_
    refine cm_isAboard (Or.inl rfl) ?_
    rw [ha]
    cases ea : a.testBit i with
    | false =>
      have et : t.testBit i = false := by
        cases et : t.testBit i with
        | false => rfl
        | true => rw [i1 et] at ea; cases ea
      rw [ea] at fa
      have fa : fAb (nI a) (nI i) = 0 := fa
      have e1 : spUp a b t (i + 1) = spUp a b t i := by
        rw [spUp]; unfold stB; rw [et, ea]; exact Bool.and_true _
      rw [e1, lst, lst, fa] at ih
      exact ifT fa ih
    | true =>
      rw [ea] at fa
      have fa : fAb (nI a) (nI i) = 1 := fa
      have nz : ¬ fAb (nI a) (nI i) = 0 := by rw [fa]; decide
      rw [lst, lst, nz_beq nz] at ih
      refine ifF nz ?_
      cases et : t.testBit i with
      | true =>
        have ih1 : stB a (b i) i t = decide (pc6 (b i &&& (a ^^^ t)) ≤ pc6 (b i &&& t)) := by unfold stB; rw [et]; rfl
        have o1 : owI a t i = nI t := by unfold owI; rw [et]; rfl
        have o2 : otI a t i = nI (a ^^^ t) := by unfold otI; rw [et]; rfl
        rw [spUp, ih1, cond_false, cond_false, o1, o2] at ih
        have raw : nI (a ^^^ t) = M 13 0 &&& (nI t ^^^ -1) := by rw [ha, s1]
        refine ifT (c := nI t >>> (nI i &&& 31) &&& 1 = 1) (bt.mpr et) ?_
        refine inBI 0 rfl (by decide) ?_
        cases hs : spUp a b t i with
        | false =>
          rw [hs, Bool.false_and, raw] at ih
          exact ih
        | true =>
          rw [hs, Bool.true_and] at ih
          refine inBI (n := 12) i rfl (by omega) ?_
          refine cm_many ?_
          refine inBI (n := 12) i rfl (by omega) ?_
          refine cm_many ?_
          refine iteI (fun (e2 : manyUp (M 6 i &&& nI t) 6 < manyUp (M 6 i &&& (M 13 0 &&& (nI t ^^^ -1))) 6) => ?_) (fun (e2 : ¬ manyUp (M 6 i &&& nI t) 6 < manyUp (M 6 i &&& (M 13 0 &&& (nI t ^^^ -1))) 6) => ?_)
          · rw [← raw, b1, and_nI _ b2 _ t64, and_nI _ b2 _ xl, many_nI _ (and_lt64 b2), many_nI _ (and_lt64 b2), pc_cmp (and_lt64 b2) (and_lt64 b2)] at e2
            rw [decide_eq_false e2, raw] at ih
            exact ih
          · rw [← raw, b1, and_nI _ b2 _ t64, and_nI _ b2 _ xl, many_nI _ (and_lt64 b2), many_nI _ (and_lt64 b2), pc_cmp (and_lt64 b2) (and_lt64 b2)] at e2
            rw [decide_eq_true (Classical.byContradiction e2), raw] at ih
            exact ih
      | false =>
        have ih1 : stB a (b i) i t = decide (pc6 (b i &&& t) ≤ pc6 (b i &&& (a ^^^ t))) := by unfold stB; rw [et, ea]; rfl
        have o1 : owI a t i = nI (a ^^^ t) := by unfold owI; rw [et]; rfl
        have o2 : otI a t i = nI t := by unfold otI; rw [et]; rfl
        rw [spUp, ih1, cond_false, cond_false, o1, o2] at ih
        have raw : nI (a ^^^ t) = M 13 0 &&& (nI t ^^^ -1) := by rw [ha, s1]
        have raw2 : some (Value.int (nI t)) = some (Value.int (M 13 0 &&& ((M 13 0 &&& (nI t ^^^ -1)) ^^^ -1))) := by rw [ha, s1, s2]
        have ih' : ∀ z, z = bI (spUp a b t i && decide (pc6 (b i &&& t) ≤ pc6 (b i &&& (a ^^^ t)))) → AW E8_isSplit (d + 1) 0 (List.length Sm) Q 4 [some (.ref 0), some (.int (nI t)), some (.int z), some (.int (nI i + 1)), some (.int (M 13 0 &&& (nI t ^^^ -1))), some (.int (M 13 0 &&& ((M 13 0 &&& (nI t ^^^ -1)) ^^^ -1)))] [] Sm M L 0 := by
          intro z hz
          rw [hz, ← raw2, ← raw]
          exact ih
        refine ifF (c := nI t >>> (nI i &&& 31) &&& 1 = 1) (fun y => by rw [bt.mp y] at et; cases et) ?_
        refine inBI 0 rfl (by decide) ?_
        refine inBI 0 rfl (by decide) ?_
        cases hs : spUp a b t i with
        | false =>
          rw [hs, Bool.false_and] at ih'
          exact ih' _ rfl
        | true =>
          rw [hs, Bool.true_and] at ih'
          refine inBI (n := 12) i rfl (by omega) ?_
          refine cm_many ?_
          refine inBI (n := 12) i rfl (by omega) ?_
          refine cm_many ?_
          refine iteI (fun (e2 : manyUp (M 6 i &&& (M 13 0 &&& (nI t ^^^ -1))) 6 < manyUp (M 6 i &&& (M 13 0 &&& ((M 13 0 &&& (nI t ^^^ -1)) ^^^ -1))) 6) => ?_) (fun (e2 : ¬ manyUp (M 6 i &&& (M 13 0 &&& (nI t ^^^ -1))) 6 < manyUp (M 6 i &&& (M 13 0 &&& ((M 13 0 &&& (nI t ^^^ -1)) ^^^ -1))) 6) => ?_)
          · rw [ha, s1, s2, b1, and_nI _ b2 _ t64, and_nI _ b2 _ xl, many_nI _ (and_lt64 b2), many_nI _ (and_lt64 b2), pc_cmp (and_lt64 b2) (and_lt64 b2)] at e2
            rw [decide_eq_false e2] at ih'
            exact ih' _ rfl
          · rw [ha, s1, s2, b1, and_nI _ b2 _ t64, and_nI _ b2 _ xl, many_nI _ (and_lt64 b2), many_nI _ (and_lt64 b2), pc_cmp (and_lt64 b2) (and_lt64 b2)] at e2
            rw [decide_eq_true (Classical.byContradiction e2)] at ih'
            exact ih' _ rfl
