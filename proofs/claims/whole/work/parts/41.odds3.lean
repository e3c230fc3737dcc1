/-! ===== odds: the class ===== -/
theorem pc6_sub : ∀ a, a < 64 → ∀ t, t < 64 → a &&& t = t → pc6 t + pc6 (a ^^^ t) = pc6 a := by decide +kernel
theorem pow10 : ∀ k, k ≤ 6 → 10 ^ k ≤ 1000000 := by decide +kernel
theorem tmW_le {a x gn t : Nat} {F : Nat → Nat} (a64 : a < 64) (t64 : t < 64) (hx : x ≤ 10) : tmW a x gn F t ≤ 1000000 := by
  unfold tmW
  by_cases z : a &&& t = t
  · cases (decide (gn ≤ F t)) with
    | false => rw [Bool.and_false]; exact Nat.zero_le _
    | true =>
      rw [decide_eq_true z, Bool.true_and, cond_true]
      have h1 : x ^ pc6 (a ^^^ t) ≤ 10 ^ pc6 (a ^^^ t) := Nat.pow_le_pow_left hx _
      have h2 : (10 - x) ^ pc6 t ≤ 10 ^ pc6 t := Nat.pow_le_pow_left (Nat.sub_le _ _) _
      refine Nat.le_trans (Nat.mul_le_mul h1 h2) ?_
      rw [← Nat.pow_add, Nat.add_comm, pc6_sub a a64 t t64 z]
      exact pow10 _ (pc6_le a a64)
  · rw [decide_eq_false z, Bool.false_and]; exact Nat.zero_le _
theorem sumN_le {f : Nat → Nat} {B : Nat} : ∀ n, (∀ i, i < n → f i ≤ B) → sumN f n ≤ n * B
  | 0, _ => Nat.zero_le _
  | n + 1, h => by
    have h1 := sumN_le n (fun i hi => h i (by omega))
    have h2 := h n (by omega)
    rw [sumN, Nat.succ_mul]
    omega
def skL (a gn : Nat) (F : Nat → Nat) : Nat → Option Value
  | 0 => none
  | i + 1 => bif decide (a &&& i = i) && decide (gn ≤ F i) then some (.int (nI (a ^^^ i))) else skL a gn F i
theorem cx_oddsL {d rot a gn x j : Nat} {wv : Int32} {F : Nat → Nat} {M : AM} {L : AL} {Q : QT} (hj : j < 5) (hx : x ≤ 10) (ha : M 9 0 = nI a) (a64 : a < 64) (hg : M 6 j = nI gn) (g31 : gn < 2 ^ 30)
    (hF : ∀ t, t < 64 → a &&& t = t → sumTo (fun h => if fAb (nI t) (nI h) = 0 then 0 else fStr (M 3 h - M 11 h)) 6 = nI (F t) ∧ F t < 2 ^ 30)
    (hend : ∀ v, AW E7_odds (d + 3) 0 (Sx rot).length Q 129 [some (.ref 0), some (.int (nI j)), some (.int (nI x)), some (.int wv), some (.int (nI (sumN (tmW a x gn F) 64))), some (.int (nI 64)), v] [] (Sx rot) M L 0) :
    AW E7_odds (d + 3) 0 (Sx rot).length Q 35 [some (.ref 0), some (.int (nI j)), some (.int (nI x)), some (.int wv), some (.int (nI 0)), some (.int (nI 0)), none] [] (Sx rot) M L 0 := by
  refine aw_loop 64 (fun i => [some (.ref 0), some (.int (nI j)), some (.int (nI x)), some (.int wv), some (.int (nI (sumN (tmW a x gn F) i))), some (.int (nI i)), skL a gn F i]) (fun _ => M) ?_ ?_
  · refine aw_run ok7_odds (at2 35 129) 60 ?_
    exact hend _
  · intro i hi ih
    rw [nI_succ, sumN, skL] at ih
    have si := sub_iff a a64 i hi
    refine aw_run ok7_odds (at1 35) 60 ?_
    refine ifF (nI_ge (a := i) (b := 64) hi (by decide)) ?_
    by_cases e1 : a &&& i = i
    · obtain ⟨f1, f2⟩ := hF i hi e1
      have s1 := (sub_nI a a64 i hi e1).1
      have xl := xor_lt a a64 i hi
      refine ifT (c := nI i &&& (M 9 0 ^^^ -1) = 0) (by rw [ha]; exact si.mpr e1) ?_
      refine cx_forceOf ?_
      refine inBI (n := 5) j rfl hj ?_
      by_cases e2 : gn ≤ F i
      · have hc : tmW a x gn F i = x ^ pc6 (a ^^^ i) * (10 - x) ^ pc6 i := by unfold tmW; rw [decide_eq_true e1, decide_eq_true e2]; rfl
        rw [hc, decide_eq_true e1, decide_eq_true e2, Bool.true_and, cond_true, ← nI_add, ← pk_mul, ← s1, ← ha] at ih
        rw [f1]
        refine ifF (c := nI (F i) < M 6 j) (by rw [hg]; exact Int32.not_lt.mpr ((nI_leI (by omega) (by omega)).mpr e2)) ?_
        have p1 := pc6_le (a ^^^ i) xl
        have p2 := pc6_le i hi
        have b1 : fBit (M 9 0 &&& (nI i ^^^ -1)) = nI (pc6 (a ^^^ i)) := by rw [ha, s1, bit_nI _ xl]
        have b2 : (10 : Int32) - nI x = nI (10 - x) := pk_sub (a := 10) hx
        refine cx_bitCount ?_
        rw [b1]
        refine cx_power (by omega) ?_
        refine cx_bitCount ?_
        rw [bit_nI i hi]
        rw [b2]
        refine cx_power (by omega) ?_
        exact ih
      · have hc : tmW a x gn F i = 0 := by unfold tmW; rw [decide_eq_false e2, Bool.and_false]; rfl
        rw [hc, decide_eq_false e2, Bool.and_false, cond_false, Nat.add_zero] at ih
        rw [f1]
        refine ifT (c := nI (F i) < M 6 j) (by rw [hg]; exact Int32.not_le.mp (fun y => e2 ((nI_leI (by omega) (by omega)).mp y))) ?_
        exact ih
    · have hc : tmW a x gn F i = 0 := by unfold tmW; rw [decide_eq_false e1, Bool.false_and]; rfl
      rw [hc, decide_eq_false e1, Bool.false_and, cond_false, Nat.add_zero] at ih
      refine ifF (c := nI i &&& (M 9 0 ^^^ -1) = 0) (by rw [ha]; exact fun y => e1 (si.mp y)) ?_
      exact ih
def oddsR (U D : Nat) (wv : Int32) : Int32 := if wv = 0 then nI (U / Nat.gcd U D) else nI (D / Nat.gcd U D)
theorem cx_odds {d rot ns a : Nat} {s xv wv : Int32} {gf : Nat → Nat} {F : Nat → Nat} {M : AM} {L : AL} {Q : QT} (hs : M 1 1 = nI ns) (n5 : ns ≤ 5) (ha : M 9 0 = nI a) (a64 : a < 64) (hg : ∀ j, j < ns → M 6 j = nI (gf j) ∧ gf j < 2 ^ 30)
    (hF : ∀ t, t < 64 → a &&& t = t → sumTo (fun h => if fAb (nI t) (nI h) = 0 then 0 else fStr (M 3 h - M 11 h)) 6 = nI (F t) ∧ F t < 2 ^ 30)
    (h1 : ((s < 0 ∨ nI ns ≤ s) ∨ fIn xv 0 10 = 0 ∨ fIn wv 0 1 = 0) → Q (some (.int (-1))) (Sx rot) M L)
    (h2 : ∀ j x, j < ns → s = nI j → x ≤ 10 → xv = nI x → ¬ fIn wv 0 1 = 0 → Q (some (.int (oddsR (sumN (tmW a x (gf j) F) 64) (10 ^ pc6 a) wv))) (Sx rot) M L) : CW E7_odds (d + 3) 0 [.ref 0, .int s, .int xv, .int wv] (Sx rot) M L Q := by
  refine cw_ent ok7_odds (at1 35) 60 ?_
  refine cx_isShip hs (by omega) (fun e => h1 (Or.inl e)) (fun j hj e => ?_)
  subst e
  refine iteI (fun z => h1 (Or.inr (Or.inl (by unfold fIn; rw [if_pos z])))) (fun z => ?_)
  refine iteI (fun z2 => h1 (Or.inr (Or.inl (by unfold fIn; rw [if_neg z, if_pos z2])))) (fun z2 => ?_)
  refine iteI (fun y => h1 (Or.inr (Or.inr (by unfold fIn; rw [if_pos y])))) (fun y => ?_)
  refine iteI (fun y2 => ?_) (fun y2 => h1 (Or.inr (Or.inr (by unfold fIn; rw [if_neg y, if_pos (Int32.not_le.mp y2)]))))
  have hf : ¬ fIn wv 0 1 = 0 := by
    unfold fIn
    rw [if_neg y, if_neg (Int32.not_lt.mpr y2)]
    decide
  rcases pk_ix xv (n := 11) (by decide) with q | q | ⟨x, hx, rfl⟩
  · exact absurd q z
  · exact absurd (Int32.lt_of_lt_of_le (show (10 : Int32) < nI 11 by decide) q) z2
  have hq := h2 j x hj rfl (by omega) rfl hf
  obtain ⟨g1, g2⟩ := hg j hj
  refine cx_oddsL (by omega) (by omega) ha a64 g1 g2 hF (fun v => ?_)
  have hU : sumN (tmW a x (gf j) F) 64 ≤ 64 * 1000000 := sumN_le 64 (fun i hi => tmW_le a64 hi (by omega))
  generalize sumN (tmW a x (gf j) F) 64 = U at hU hq
  have p6 := pc6_le a a64
  have hD := pow10 _ p6
  have hD0 : 0 < 10 ^ pc6 a := Nat.pow_pos (by decide)
  have hb : fBit (M 9 0) = nI (pc6 a) := by rw [ha, bit_nI a a64]
  refine aw_run ok7_odds noStop 60 ?_
  refine cx_bitCount ?_
  rw [hb]
  refine cx_power (x := 10) (by omega) ?_
  refine cx_gcd (by omega) (by omega) ?_
  have hG0 : 0 < Nat.gcd U (10 ^ pc6 a) := Nat.gcd_pos_of_pos_right _ hD0
  have hGle : Nat.gcd U (10 ^ pc6 a) ≤ 10 ^ pc6 a := Nat.le_of_dvd hD0 (Nat.gcd_dvd_right _ _)
  unfold oddsR at hq
  generalize hG : Nat.gcd U (10 ^ pc6 a) = G at *
  generalize 10 ^ pc6 a = D at *
  refine iteI (fun _ => ?_) (fun y => ?_)
  · have nz : ¬ nI G = 0 := fun y => absurd ((nI_eq (b := 0) (by omega) (by omega)).mp y) (by omega)
    refine iteI (fun e => ?_) (fun e => ?_)
    · rw [if_pos e, ← pk_div (by omega) hG0 (by omega)] at hq
      exact ifF (c := nI G = 0) nz hq
    · rw [if_neg e, ← pk_div (by omega) hG0 (by omega)] at hq
      exact ifF (c := nI G = 0) nz hq
  · exact absurd (Int32.not_le.mp (fun q => absurd ((nI_leI (b := 0) (by omega) (by omega)).mp q) (by omega))) y
