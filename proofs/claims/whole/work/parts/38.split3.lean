/-! ===== split: the calls ===== -/
def loN (a : Nat) : Nat := bif a.testBit 0 then 0 else bif a.testBit 1 then 1 else bif a.testBit 2 then 2 else bif a.testBit 3 then 3 else bif a.testBit 4 then 4 else 5
theorem lo_nI : ∀ a, a < 64 → ¬ a = 0 → firstUp (nI a) 0 6 = nI (loN a) ∧ loN a < 6 := by decide +kernel
theorem sub_iff : ∀ a, a < 64 → ∀ t, t < 64 → (nI t &&& (nI a ^^^ -1) = 0 ↔ a &&& t = t) := by decide +kernel
def gdB (a : Nat) (b : Nat → Nat) (n t : Nat) : Bool := decide (a &&& t = t) && (t.testBit (loN a) && spUp a b t n)
def cdn (g : Nat → Bool) (a : Nat) : Nat → Nat
  | 0 => 0
  | i + 1 => bif g (a - i) then cdn g a i + 1 else cdn g a i
def fdn (g : Nat → Bool) (a : Nat) : Nat → Option Nat
  | 0 => none
  | i + 1 => bif g (a - i) then some (a - i) else fdn g a i
def cup (g : Nat → Bool) : Nat → Nat
  | 0 => 0
  | i + 1 => bif g (i + 1) then cup g i + 1 else cup g i
def fup (g : Nat → Bool) : Nat → Option Nat
  | 0 => none
  | i + 1 => bif g (i + 1) then (match fup g i with | none => some (i + 1) | some x => some x) else fup g i
theorem cup_eq {g : Nat → Bool} {a : Nat} : ∀ i, i ≤ a → cdn g a i + cup g (a - i) = cup g a
  | 0, _ => by rw [cdn, Nat.sub_zero, Nat.zero_add]
  | i + 1, hi => by
    have ih := cup_eq (g := g) i (by omega : i ≤ a)
    obtain ⟨m, hm⟩ : ∃ m, a - i = m + 1 := ⟨a - i - 1, by omega⟩
    rw [hm, cup] at ih
    rw [cdn, hm, show a - (i + 1) = m by omega]
    cases e : g (m + 1) with
    | true => rw [e, cond_true] at ih; rw [cond_true]; omega
    | false => rw [e, cond_false] at ih; rw [cond_false]; exact ih
def orO : Option Nat → Option Nat → Option Nat
  | some x, _ => some x
  | none, y => y
theorem fup_eq {g : Nat → Bool} {a : Nat} : ∀ i, i ≤ a → orO (fup g (a - i)) (fdn g a i) = fup g a
  | 0, _ => by
    rw [fdn, Nat.sub_zero]
    cases fup g a <;> rfl
  | i + 1, hi => by
    have ih := fup_eq (g := g) i (by omega : i ≤ a)
    obtain ⟨m, hm⟩ : ∃ m, a - i = m + 1 := ⟨a - i - 1, by omega⟩
    rw [hm, fup] at ih
    rw [fdn, hm, show a - (i + 1) = m by omega, ← ih]
    cases e : g (m + 1) with
    | true => cases fup g m <;> rfl
    | false => cases fup g m <;> rfl
theorem cup_up {g : Nat → Bool} {a : Nat} (hg : ∀ t, a < t → g t = false) : ∀ k, cup g (a + k) = cup g a ∧ fup g (a + k) = fup g a
  | 0 => ⟨rfl, rfl⟩
  | k + 1 => by
    obtain ⟨h1, h2⟩ := cup_up hg k
    rw [show a + (k + 1) = a + k + 1 by omega, cup, fup, hg _ (by omega), cond_false, cond_false]
    exact ⟨h1, h2⟩
theorem gd_top {a n : Nat} {b : Nat → Nat} : ∀ t, a < t → gdB a b n t = false := by
  intro t ht
  unfold gdB
  rw [decide_eq_false, Bool.false_and]
  intro e
  have : a &&& t ≤ a := Nat.and_le_left
  omega
theorem cm_split {d n a : Nat} {q : Int32} {b : Nat → Nat} {M : AM} {L : AL} {Q : QT} (hn : M 2 0 = nI n) (n6 : n ≤ 6) (ha : M 13 0 = nI a) (a64 : a < 64) (hb : ∀ i, i < n → M 6 i = nI (b i) ∧ b i < 64)
    (h1 : fIn q 0 1 = 0 → Q (some (.int (-1))) Sm M L) (h2 : ¬ fIn q 0 1 = 0 → Q (some (.int (if q = 0 then nI (cdn (gdB a b n) a a) else oI (fdn (gdB a b n) a a)))) Sm M L) : CW E8_split (d + 2) 0 [.ref 0, .int q] Sm M L Q := by
  refine cw_ent ok8_split (at1 35) 60 ?_
  refine cm_in ?_
  refine iteI (fun z => h1 z) (fun z => ?_)
  have hq := h2 z
  refine inBI 0 rfl (by decide) ?_
  refine cm_first ?_
  refine inBI 0 rfl (by decide) ?_
  have key : AW E8_split (d + 2) 0 Sm.length Q 35 [some (.ref 0), some (.int q), some (.int (firstUp (M 13 0) 0 6)), some (.int (nI 0)), some (.int (-9)), some (.int (nI (a - 0)))] [] Sm M L 0 := by
    refine aw_loop a (fun i => [some (.ref 0), some (.int q), some (.int (firstUp (M 13 0) 0 6)), some (.int (nI (cdn (gdB a b n) a i))), some (.int (oI (fdn (gdB a b n) a i))), some (.int (nI (a - i)))]) (fun _ => M) ?_ ?_
    · refine aw_run ok8_split (at1 35) 60 ?_
      refine ifT (c := nI (a - a) ≤ 0) (by rw [Nat.sub_self]; decide) ?_
      refine iteI (fun e => ?_) (fun e => ?_)
      · rw [if_pos e] at hq; exact hq
      · rw [if_neg e] at hq; exact hq
    · intro i hi ih
      have hne : ¬ a = 0 := by omega
      obtain ⟨l1, l2⟩ := lo_nI a a64 hne
      obtain ⟨t, ht⟩ : ∃ t, a - i = t + 1 := ⟨a - i - 1, by omega⟩
      have ht2 : a - (i + 1) = t := by omega
      have t64 : t + 1 < 64 := by omega
      rw [ht2, show nI t = nI (t + 1) + (-1) from by rw [← nI_dec, nI_pred], cdn, fdn, ht] at ih
      have si := sub_iff a a64 (t + 1) t64
      have bt := bit1 (t + 1) t64 (loN a) l2
      rw [ht]
      refine aw_run ok8_split (at1 35) 60 ?_
      refine ifF (c := nI (t + 1) ≤ 0) (fun y => by have := (nI_leI (b := 0) (by omega) (by decide)).mp y; omega) ?_
      refine inBI 0 rfl (by decide) ?_
      by_cases e1 : a &&& (t + 1) = t + 1
      · refine ifT (c := nI (t + 1) &&& (M 13 0 ^^^ -1) = 0) (by rw [ha]; exact si.mpr e1) ?_
        cases e2 : (t + 1).testBit (loN a) with
        | true =>
          have hg : gdB a b n (t + 1) = spUp a b (t + 1) n := by unfold gdB; rw [decide_eq_true e1, e2, Bool.true_and, Bool.true_and]
          rw [hg] at ih
          refine ifT (c := nI (t + 1) >>> (firstUp (M 13 0) 0 6 &&& 31) &&& 1 = 1) (by rw [ha, l1]; exact bt.mpr e2) ?_
          refine cm_isSplit hn n6 ha a64 t64 e1 hb ?_
          cases e3 : spUp a b (t + 1) n with
          | true =>
            rw [e3, cond_true, cond_true, nI_succ] at ih
            exact ih
          | false =>
            rw [e3, cond_false, cond_false] at ih
            exact ih
        | false =>
          have hg : gdB a b n (t + 1) = false := by unfold gdB; rw [e2, Bool.false_and, Bool.and_false]
          rw [hg, cond_false, cond_false] at ih
          refine ifF (c := nI (t + 1) >>> (firstUp (M 13 0) 0 6 &&& 31) &&& 1 = 1) (by rw [ha, l1]; exact fun y => by rw [bt.mp y] at e2; cases e2) ?_
          exact ih
      · have hg : gdB a b n (t + 1) = false := by unfold gdB; rw [decide_eq_false e1, Bool.false_and]
        rw [hg, cond_false, cond_false] at ih
        refine ifF (c := nI (t + 1) &&& (M 13 0 ^^^ -1) = 0) (by rw [ha]; exact fun y => e1 (si.mp y)) ?_
        exact ih
  rw [Nat.sub_zero, ← ha] at key
  exact key
theorem oI_n64 : ∀ t, t < 64 → ¬ nI t = -9 := by decide +kernel
theorem fup_lt {g : Nat → Bool} : ∀ i x, fup g i = some x → x ≤ i
  | 0, x, h => by cases h
  | i + 1, x, h => by
    unfold fup at h
    cases e : g (i + 1) with
    | true =>
      rw [e, cond_true] at h
      cases e2 : fup g i with
      | none => rw [e2] at h; injection h with h; omega
      | some y =>
        rw [e2] at h
        injection h with h
        have := fup_lt i y e2
        omega
    | false =>
      rw [e, cond_false] at h
      have := fup_lt i x h
      omega
theorem cx_split {d rot n a : Nat} {q : Int32} {b : Nat → Nat} {M : AM} {L : AL} {Q : QT} (hn : M 1 0 = nI n) (n6 : n ≤ 6) (ha : M 9 0 = nI a) (a64 : a < 64) (hb : ∀ i, i < n → M 5 i = nI (b i) ∧ b i < 64)
    (h1 : fIn q 0 1 = 0 → Q (some (.int (-1))) (Sx rot) M L) (h2 : ¬ fIn q 0 1 = 0 → Q (some (.int (if q = 0 then nI (cup (gdB a b n) 63) else oI (fup (gdB a b n) 63)))) (Sx rot) M L) : CW E7_split (d + 2) 0 [.ref 0, .int q] (Sx rot) M L Q := by
  refine cw_ent ok7_split (at1 31) 60 ?_
  refine iteI (fun z => h1 (by unfold fIn; rw [if_pos z])) (fun z => ?_)
  refine iteI (fun z2 => ?_) (fun z2 => h1 (by unfold fIn; rw [if_neg z, if_pos (Int32.not_le.mp z2)]))
  have hf : ¬ fIn q 0 1 = 0 := by
    unfold fIn
    rw [if_neg z, if_neg (Int32.not_lt.mpr z2)]
    decide
  have hq := h2 hf
  refine cx_lowestOf ?_
  have key : AW E7_split (d + 2) 0 (Sx rot).length Q 31 [some (.ref 0), some (.int q), some (.int (firstUp (M 9 0) 0 6)), some (.int (nI 0)), some (.int (-9)), some (.int (nI (0 + 1)))] [] (Sx rot) M L 0 := by
    refine aw_loop 63 (fun i => [some (.ref 0), some (.int q), some (.int (firstUp (M 9 0) 0 6)), some (.int (nI (cup (gdB a b n) i))), some (.int (oI (fup (gdB a b n) i))), some (.int (nI (i + 1)))]) (fun _ => M) ?_ ?_
    · refine aw_run ok7_split (at1 31) 60 ?_
      refine iteI (fun e => ?_) (fun e => ?_)
      · rw [if_pos e] at hq; exact hq
      · rw [if_neg e] at hq; exact hq
    · intro i hi ih
      rw [nI_succ (i + 1), cup, fup] at ih
      have t64 : i + 1 < 64 := by omega
      have si := sub_iff a a64 (i + 1) t64
      refine aw_run ok7_split (at1 31) 60 ?_
      refine ifF (nI_ge (a := i + 1) (b := 64) (by omega) (by decide)) ?_
      by_cases e1 : a &&& (i + 1) = i + 1
      · have hne : ¬ a = 0 := by
          intro y; subst y
          rw [Nat.zero_and] at e1; omega
        obtain ⟨l1, l2⟩ := lo_nI a a64 hne
        have ft := fAb_nI (i + 1) t64 (loN a) l2
        refine ifT (c := nI (i + 1) &&& (M 9 0 ^^^ -1) = 0) (by rw [ha]; exact si.mpr e1) ?_
        refine cw_isIn ?_
        have hlo : firstUp (M 9 0) 0 6 = nI (loN a) := by rw [ha, l1]
        have hin : fIsIn (nI (i + 1)) (firstUp (M 9 0) 0 6) = fAb (nI (i + 1)) (nI (loN a)) := by rw [hlo, fIsIn_nI (by omega)]
        cases e2 : (i + 1).testBit (loN a) with
        | true =>
          rw [e2] at ft
          have hg : gdB a b n (i + 1) = spUp a b (i + 1) n := by unfold gdB; rw [decide_eq_true e1, e2, Bool.true_and, Bool.true_and]
          rw [hg] at ih
          refine ifF (c := fIsIn (nI (i + 1)) (firstUp (M 9 0) 0 6) = 0) (by rw [hin, ft]; decide) ?_
          refine cx_allStay hn n6 ha a64 t64 e1 hb ?_
          cases e3 : spUp a b (i + 1) n with
          | true =>
            rw [e3, cond_true, cond_true, nI_succ] at ih
            cases e4 : fup (gdB a b n) i with
            | none =>
              rw [e4] at ih
              exact ih
            | some x =>
              have := fup_lt i x e4
              rw [e4] at ih
              refine ifF (c := nI x = -9) (oI_n64 x (by omega)) ?_
              exact ih
          | false =>
            rw [e3, cond_false, cond_false] at ih
            exact ih
        | false =>
          rw [e2] at ft
          have hg : gdB a b n (i + 1) = false := by unfold gdB; rw [e2, Bool.false_and, Bool.and_false]
          rw [hg, cond_false, cond_false] at ih
          refine ifT (c := fIsIn (nI (i + 1)) (firstUp (M 9 0) 0 6) = 0) (by rw [hin, ft]; rfl) ?_
          exact ih
      · have hg : gdB a b n (i + 1) = false := by unfold gdB; rw [decide_eq_false e1, Bool.false_and]
        rw [hg, cond_false, cond_false] at ih
        refine ifF (c := nI (i + 1) &&& (M 9 0 ^^^ -1) = 0) (by rw [ha]; exact fun y => e1 (si.mp y)) ?_
        exact ih
  exact key
section SD9
variable {c rot : Nat} {Mm : AM} {Lm : AL} {Mx : AM} {Lx : AL}
theorem st_splitC (hR : Rel c rot Mm Lm Mx Lx) (q : Int32) : Step E8_split E7_split [.int q] c rot Mm Lm Mx Lx := by
  obtain ⟨n, ns, np, hT, hL, -⟩ := id hR
  obtain ⟨⟨n6, -, -⟩, ⟨hn, hn'⟩, -⟩ := id hT
  obtain ⟨b, b1, b2, -, -⟩ := likes_of hT
  obtain ⟨v0, -⟩ := vec_all hL.1
  obtain ⟨⟨a, a1, a2⟩, -⟩ := id hL.2.1
  have a2 : Mm 13 0 = nI a := by simpa using a2
  have hp := pow_le6 n6
  have a64 : a < 64 := by omega
  have hx : Mx 9 0 = nI a := v0.trans a2
  have bx : ∀ i, i < n → Mx 5 i = nI (b i) ∧ b i < 64 := fun i hi => ⟨(b2 i hi).trans (b1 i hi).1, (b1 i hi).2⟩
  by_cases hf : fIn q 0 1 = 0
  · exact step_read hR (.int (-1)) (fun Q hQ => cm_split hn n6 a2 a64 b1 (fun _ => hQ) (fun y => absurd hf y)) (fun Q hQ => cx_split hn' n6 hx a64 bx (fun _ => hQ) (fun y => absurd hf y))
  · obtain ⟨e1, e2⟩ := cup_up (g := gdB a b n) (a := a) gd_top (63 - a)
    rw [show a + (63 - a) = 63 by omega] at e1 e2
    have e3 := cup_eq (g := gdB a b n) (a := a) a (Nat.le_refl a)
    have e4 := fup_eq (g := gdB a b n) (a := a) a (Nat.le_refl a)
    rw [Nat.sub_self] at e3 e4
    have e5 : cdn (gdB a b n) a a = cup (gdB a b n) 63 := by rw [e1, ← e3]; rfl
    have e6 : fdn (gdB a b n) a a = fup (gdB a b n) 63 := by rw [e2, ← e4]; rfl
    exact step_read hR (.int (if q = 0 then nI (cup (gdB a b n) 63) else oI (fup (gdB a b n) 63))) (fun Q hQ => cm_split hn n6 a2 a64 b1 (fun y => absurd y hf) (fun _ => by rw [e5, e6]; exact hQ)) (fun Q hQ => cx_split hn' n6 hx a64 bx (fun y => absurd y hf) (fun _ => hQ))
end SD9
