/-! ===== odds: the model's sum ===== -/
theorem cm_oddsS {d n0 n a x j gn : Nat} {wv dv : Int32} {F : Nat → Nat} {M : AM} {L : AL} {Q : QT} (hn : M 2 0 = nI n) (n6 : n ≤ 6) (ha : M 13 0 = nI a) (han : a < 2 ^ n) (a64 : a < 64) (hx : x ≤ 10) (hj : j < 5) (hg : M 8 j = nI gn) (g31 : gn < 2 ^ 30)
    (hF : ∀ t, t < 64 → a &&& t = t → sumTo (fForce (nI a) (nI t) (fun h => fStr (M 4 h - M 13 (9 + h)))) n = nI (F (a ^^^ t)) ∧ F (a ^^^ t) < 2 ^ 30)
    (hend : ∀ v7 v8, AW E8_odds (d + 3) 0 n0 Q 209 [some (.ref 0), some (.int (nI j)), some (.int (nI x)), some (.int wv), some (.int (nI (sumN (tmS a x gn F) (2 ^ n)))), some (.int dv), some (.int (nI (2 ^ n))), v7, v8] [] Sm M L 0) :
    AW E8_odds (d + 3) 0 n0 Q 82 [some (.ref 0), some (.int (nI j)), some (.int (nI x)), some (.int wv), some (.int 0), some (.int dv), some (.int (nI 0)), none, none] [] Sm M L 0 := by
  have hp := pow_le6 n6
  have hsh : (1 : Int32) <<< (M 2 0 &&& 31) = nI (2 ^ n) := by rw [hn]; exact (pow_nI n n6).1
  have key : ∀ k, k ≤ 2 ^ n → ∀ v7 v8, AW E8_odds (d + 3) 0 n0 Q 82 [some (.ref 0), some (.int (nI j)), some (.int (nI x)), some (.int wv), some (.int (nI (sumN (tmS a x gn F) (2 ^ n - k)))), some (.int dv), some (.int (nI (2 ^ n - k))), v7, v8] [] Sm M L 0 := by
    intro k
    induction k with
    | zero =>
      intro _ v7 v8
      refine aw_run ok8_odds (at2 82 209) 60 ?_
      refine inBI 0 rfl (by decide) ?_
      refine ifT (c := (1 : Int32) <<< (M 2 0 &&& 31) ≤ nI (2 ^ n - 0)) (by rw [hsh]; exact Int32.le_refl _) ?_
      exact hend v7 v8
    | succ k ih =>
      intro hk v7 v8
      have ih := ih (by omega)
      obtain ⟨t, ht⟩ : ∃ t, 2 ^ n - k = t + 1 := ⟨2 ^ n - k - 1, by omega⟩
      rw [ht, nI_succ, sumN, ← nI_add] at ih
      rw [show 2 ^ n - (k + 1) = t by omega]
      have t64 : t < 64 := by omega
      have si := sub_iff a a64 t t64
      have tail : ∀ w0, tmS a x gn F t = w0 * wyN a x t n → AW E8_odds (d + 3) 0 n0 Q 138 [some (.ref 0), some (.int (nI j)), some (.int (nI x)), some (.int wv), some (.int (nI (sumN (tmS a x gn F) t))), some (.int dv), some (.int (nI t)), some (.int (nI w0)), some (.int (nI 0))] [] Sm M L 0 := by
        intro w0 hw
        rw [hw] at ih
        refine cm_oddsW hn n6 ha a64 t64 hx ?_
        refine aw_run ok8_odds (at1 82) 60 ?_
        exact ih _ _
      refine aw_run ok8_odds (at2 82 138) 60 ?_
      refine inBI 0 rfl (by decide) ?_
      refine ifF (c := (1 : Int32) <<< (M 2 0 &&& 31) ≤ nI t) (by rw [hsh]; exact nI_ge (by omega) (by omega)) ?_
      refine inBI 0 rfl (by decide) ?_
      by_cases e1 : a &&& t = t
      · obtain ⟨f1, f2⟩ := hF t t64 e1
        have wy : wyN a x t n = x ^ pc6 t * (10 - x) ^ pc6 (a ^^^ t) := by
          have tl : t < 2 ^ n := by omega
          have xl : a ^^^ t < 2 ^ n := Nat.xor_lt_two_pow han tl
          rw [wyN_eq (fun h hh => (in_sub a a64 t t64 e1 h hh).1) (fun h hh => (in_sub a a64 t t64 e1 h hh).2) n n6, pc_top tl n6, pc_top xl n6]
        refine ifT (c := nI t &&& (M 13 0 ^^^ -1) = 0) (by rw [ha]; exact si.mpr e1) ?_
        refine cm_force (Or.inl rfl) hn n6 ?_
        rw [ha, f1]
        refine inBI (n := 10) j rfl (by omega) ?_
        by_cases e2 : gn ≤ F (a ^^^ t)
        · refine ifF (c := nI (F (a ^^^ t)) < M 8 j) (by rw [hg]; exact Int32.not_lt.mpr ((nI_leI (by omega) (by omega)).mpr e2)) ?_
          exact tail 1 (by unfold tmS; rw [decide_eq_true e1, decide_eq_true e2, Bool.true_and, cond_true, Nat.one_mul, wy])
        · refine ifT (c := nI (F (a ^^^ t)) < M 8 j) (by rw [hg]; exact Int32.not_le.mp (fun y => e2 ((nI_leI (by omega) (by omega)).mp y))) ?_
          exact tail 0 (by unfold tmS; rw [decide_eq_false e2, Bool.and_false, cond_false, Nat.zero_mul])
      · refine ifF (c := nI t &&& (M 13 0 ^^^ -1) = 0) (by rw [ha]; exact fun y => e1 (si.mp y)) ?_
        exact tail 0 (by unfold tmS; rw [decide_eq_false e1, Bool.false_and, cond_false, Nat.zero_mul])
  have k0 := key (2 ^ n) (Nat.le_refl _) none none
  rw [Nat.sub_self] at k0
  exact k0
theorem cm_odds {d n ns a : Nat} {s xv wv : Int32} {gf : Nat → Nat} {F : Nat → Nat} {M : AM} {L : AL} {Q : QT} (hn : M 2 0 = nI n) (n6 : n ≤ 6) (hs : M 7 0 = nI ns) (n5 : ns ≤ 5) (ha : M 13 0 = nI a) (han : a < 2 ^ n) (a64 : a < 64) (hg : ∀ j, j < ns → M 8 j = nI (gf j) ∧ gf j < 2 ^ 30)
    (hF : ∀ t, t < 64 → a &&& t = t → sumTo (fForce (nI a) (nI t) (fun h => fStr (M 4 h - M 13 (9 + h)))) n = nI (F (a ^^^ t)) ∧ F (a ^^^ t) < 2 ^ 30)
    (hU : ∀ x gn, x ≤ 10 → sumN (tmS a x gn F) (2 ^ n) < 2 ^ 30)
    (h1 : ((s < 0 ∨ nI ns ≤ s) ∨ fIn xv 0 10 = 0 ∨ fIn wv 0 1 = 0) → Q (some (.int (-1))) Sm M L)
    (h2 : ∀ j x, j < ns → s = nI j → x ≤ 10 → xv = nI x → ¬ fIn wv 0 1 = 0 → Q (some (.int (oddsR (sumN (tmS a x (gf j) F) (2 ^ n)) (10 ^ pc6 a) wv))) Sm M L) : CW E8_odds (d + 3) 0 [.ref 0, .int s, .int xv, .int wv] Sm M L Q := by
  refine cw_ent ok8_odds (at1 38) 60 ?_
  refine cm_isShip ?_
  rw [hs]
  rcases fIn_ix s (n := ns) (by omega) with ⟨g1, g2⟩ | ⟨j, hj, rfl, g⟩
  · exact ifT g1 (h1 (Or.inl g2))
  refine ifF (by rw [g]; decide) ?_
  refine cm_in ?_
  refine iteI (fun z => h1 (Or.inr (Or.inl z))) (fun z => ?_)
  refine cm_in ?_
  refine iteI (fun y => h1 (Or.inr (Or.inr y))) (fun y => ?_)
  obtain ⟨x, hx, rfl⟩ : ∃ x, x ≤ 10 ∧ xv = nI x := by
    rcases pk_ix xv (n := 11) (by decide) with q | q | ⟨x, hx, rfl⟩
    · exact absurd (by unfold fIn; rw [if_pos q]) z
    · refine absurd ?_ z
      unfold fIn
      by_cases q2 : xv < 0
      · rw [if_pos q2]
      · rw [if_neg q2, if_pos (Int32.lt_of_lt_of_le (show (10 : Int32) < nI 11 by decide) q)]
    · exact ⟨x, by omega, rfl⟩
  have hq := h2 j x hj rfl hx rfl y
  obtain ⟨g1, g2⟩ := hg j hj
  have hU := hU x (gf j) hx
  refine cm_oddsD hn n6 ha a64 ?_
  rw [pc_top han n6]
  refine aw_run ok8_odds (at1 82) 60 ?_
  refine cm_oddsS hn n6 ha han a64 hx (by omega) g1 g2 hF (fun v7 v8 => ?_)
  generalize sumN (tmS a x (gf j) F) (2 ^ n) = U at hU hq
  have hD := pow10 _ (pc6_le a a64)
  have hD0 : 0 < 10 ^ pc6 a := Nat.pow_pos (by decide)
  have hG0 : 0 < Nat.gcd U (10 ^ pc6 a) := Nat.gcd_pos_of_pos_right _ hD0
  have hGle : Nat.gcd U (10 ^ pc6 a) ≤ 10 ^ pc6 a := Nat.le_of_dvd hD0 (Nat.gcd_dvd_right _ _)
  have hcom : Nat.gcd (10 ^ pc6 a) U = Nat.gcd U (10 ^ pc6 a) := Nat.gcd_comm _ _
  unfold oddsR at hq
  generalize Nat.gcd U (10 ^ pc6 a) = G at *
  generalize 10 ^ pc6 a = D at *
  have nz : ¬ nI G = 0 := fun y => absurd ((nI_eq (b := 0) (by omega) (by omega)).mp y) (by omega)
  have fin := cm_oddsG (d := d) (n0 := Sm.length) (sv := nI j) (xv := nI x) (wv := wv) (uv := nI U) (dv := nI D) (G := G) (M := M) (L := L) (Q := Q) (fun v => ?_) D U v8 hU (by omega) hcom
  · refine aw_run ok8_odds (at1 217) 60 ?_
    exact fin
  · refine aw_run ok8_odds noStop 60 ?_
    refine iteI (fun e => ?_) (fun e => ?_)
    · rw [if_pos e, ← pk_div (by omega) hG0 (by omega)] at hq
      exact ifF (c := nI G = 0) nz hq
    · rw [if_neg e, ← pk_div (by omega) hG0 (by omega)] at hq
      exact ifF (c := nI G = 0) nz hq
