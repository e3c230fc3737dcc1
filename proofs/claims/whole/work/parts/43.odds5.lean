/-! ===== odds: the model's sum ===== -/
theorem cm_oddsS {d n0 n a x j gn : Nat} {wv dv : Int32} {F : Nat → Nat} {M : AM} {L : AL} {Q : QT} (hn : M 2 0 = nI n) (n6 : n ≤ 6) (ha : M 13 0 = nI a) (han : a < 2 ^ n) (a64 : a < 64) (hx : x ≤ 10) (hj : j < 5) (hg : M 8 j = nI gn) (g31 : gn < 2 ^ 30)
    (hF : ∀ t, t < 64 → a &&& t = t → sumTo (fForce (nI a) (nI t) (fun h => fStr (M 4 h - M 13 (9 + h)))) n = nI (F (a ^^^ t)) ∧ F (a ^^^ t) < 2 ^ 30)
    (hend : ∀ v7 v8, AW E8_odds (d + 3) 0 n0 Q 209 [some (.ref 0), some (.int (nI j)), some (.int (nI x)), some (.int wv), some (.int (nI (sumN (tmS a x gn F) (2 ^ n)))), some (.int dv), some (.int (nI (2 ^ n))), v7, v8] [] Sm M L 0) :
    AW E8_odds (d + 3) 0 n0 Q 82 [some (.ref 0), some (.int (nI j)), some (.int (nI x)), some (.int wv), some (.int 0), some (.int dv), some (.int (nI 0)), none, none] [] Sm M L 0 := by
  have hp := pow_le6 n6
  have hsh : (1 : Int32) <<< (M 2 0 &&& 31) = nI (2 ^ n) := by rw [hn]; exact (pow_nI n n6).1
  have key : ∀ k, k ≤ 2 ^ n → ∀ v7 v8, AW E8_odds (d + 3) 0 n0 Q 82 [some (.ref 0), some (.int (nI j)), some (.int (nI x)), some (.int wv), some (.int (nI (sumN (tmS a x gn F) (2 ^ n - k)))), some (.int dv), some (.int (nI (2 ^ n - k))), v7, v8] [] Sm M L 0 := by
    intro k
    induction k with
    | zero =>
      intro _ v7 v8
      refine aw_run ok8_odds (at2 82 209) 60 ?_
      refine inBI 0 rfl (by decide) ?_
      refine ifT (c := (1 : Int32) <<< (M 2 0 &&& 31) ≤ nI (2 ^ n - 0)) (by rw [hsh]; exact Int32.le_refl _) ?_
      exact hend v7 v8
    | succ k ih =>
      intro hk v7 v8
      have ih := ih (by omega)
      obtain ⟨t, ht⟩ : ∃ t, 2 ^ n - k = t + 1 := ⟨2 ^ n - k - 1, by omega⟩
      rw [ht, nI_succ, sumN, ← nI_add] at ih
      rw [show 2 ^ n - (k + 1) = t by omega]
      have t64 : t < 64 := by omega
      have si := sub_iff a a64 t t64
      have tail : ∀ w0, tmS a x gn F t = w0 * wyN a x t n → AW E8_odds (d + 3) 0 n0 Q 138 [some (.ref 0), some (.int (nI j)), some (.int (nI x)), some (.int wv), some (.int (nI (sumN (tmS a x gn F) t))), some (.int dv), some (.int (nI t)), some (.int (nI w0)), some (.int (nI 0))] [] Sm M L 0 := by
        intro w0 hw
        rw [hw] at ih
        refine cm_oddsW hn n6 ha a64 t64 hx ?_
        refine aw_run ok8_odds (at1 82) 60 ?_
        exact ih _ _
      refine aw_run ok8_odds (at2 82 138) 60 ?_
      refine inBI 0 rfl (by decide) ?_
      refine ifF (c := (1 : Int32) <<< (M 2 0 &&& 31) ≤ nI t) (by rw [hsh]; exact nI_ge (by omega) (by omega)) ?_
      refine inBI 0 rfl (by decide) ?_
      by_cases e1 : a &&& t = t
      · obtain ⟨f1, f2⟩ := hF t t64 e1
        have wy : wyN a x t n = x ^ pc6 t * (10 - x) ^ pc6 (a ^^^ t) := by
          have tl : t < 2 ^ n := by omega
          have xl : a ^^^ t < 2 ^ n := Nat.xor_lt_two_pow han tl
          rw [wyN_eq (fun h hh => (in_sub a a64 t t64 e1 h hh).1) (fun h hh => (in_sub a a64 t t64 e1 h hh).2) n n6, pc_top tl n6, pc_top xl n6]
        refine ifT (c := nI t &&& (M 13 0 ^^^ -1) = 0) (by rw [ha]; exact si.mpr e1) ?_
        refine cm_force (Or.inl rfl) hn n6 ?_
        rw [ha, f1]
        refine inBI (n := 10) j rfl (by omega) ?_
        by_cases e2 : gn ≤ F (a ^^^ t)
        · refine ifF (c := nI (F (a ^^^ t)) < M 8 j) (by rw [hg]; exact Int32.not_lt.mpr ((nI_leI (by omega) (by omega)).mpr e2)) ?_
          exact tail 1 (by unfold tmS; rw [decide_eq_true e1, decide_eq_true e2, Bool.true_and, cond_true, Nat.one_mul, wy])
        · refine ifT (c := nI (F (a ^^^ t)) < M 8 j) (by rw [hg]; exact Int32.not_le.mp (fun y => e2 ((nI_leI (by omega) (by omega)).mp y))) ?_
          exact tail 0 (by unfold tmS; rw [decide_eq_false e2, Bool.and_false, cond_false, Nat.zero_mul])
      · refine ifF (c := nI t &&& (M 13 0 ^^^ -1) = 0) (by rw [ha]; exact fun y => e1 (si.mp y)) ?_
        exact tail 0 (by unfold tmS; rw [decide_eq_false e1, Bool.false_and, cond_false, Nat.zero_mul])
  have k0 := key (2 ^ n) (Nat.le_refl _) none none
  rw [Nat.sub_self] at k0
  exact k0
