/-! ===== odds, side by side ===== -/
theorem fStr_sub {v w : Nat} (hv : v < 2 ^ 30) (hw : w < 2 ^ 30) : fStr (nI v - nI w) = nI (v - w) := by
  unfold fStr
  by_cases z : w ≤ v
  · rw [pk_sub z, if_pos (Int32.not_lt.mp (nI_pos (by omega)))]
  · rw [if_neg, show v - w = 0 by omega]
    · rfl
    · rw [Int32.le_iff_toInt_le, pk_sub_toInt hv hw]
      have : (0 : Int32).toInt = 0 := by decide
      omega
def FsN (st : Nat → Nat) (t : Nat) : Nat → Nat
  | 0 => 0
  | i + 1 => FsN st t i + (bif t.testBit i then st i else 0)
theorem FsN_le {st : Nat → Nat} {t B : Nat} (h : ∀ i, i < 6 → st i ≤ B) : ∀ i, i ≤ 6 → FsN st t i ≤ i * B
  | 0, _ => Nat.zero_le _
  | i + 1, hi => by
    have h1 := FsN_le (t := t) h i (by omega)
    have h2 := h i (by omega)
    rw [FsN, Nat.succ_mul]
    cases t.testBit i <;> simp <;> omega
theorem FsN_nI {f : Nat → Int32} {st : Nat → Nat} {t : Nat} (h : ∀ i, i < 6 → f i = nI (bif t.testBit i then st i else 0)) : ∀ i, i ≤ 6 → sumTo f i = nI (FsN st t i)
  | 0, _ => rfl
  | i + 1, hi => by rw [sumTo, FsN_nI h i (by omega), h i (by omega), FsN, nI_add]
section SD10
variable {c rot : Nat} {Mm : AM} {Lm : AL} {Mx : AM} {Lx : AL}
theorem st_odds (hc : c < 100000) (hR : Rel c rot Mm Lm Mx Lx) (s xv wv : Int32) : Step E8_odds E7_odds [.int s, .int xv, .int wv] c rot Mm Lm Mx Lx := by
  obtain ⟨n, ns, np, hT, hL, -⟩ := id hR
  obtain ⟨⟨n6, n5, -⟩, ⟨hn, hn'⟩, ⟨hs, hs'⟩, -, -, -, t4, -, -, tg, -⟩ := id hT
  obtain ⟨v0, -, -, -, -, -, w9, -⟩ := vec_all hL.1
  obtain ⟨⟨a, a1, a2⟩, -, -, h6, -⟩ := id hL.2.1
  have a2 : Mm 13 0 = nI a := by simpa using a2
  have hp := pow_le6 n6
  have a64 : a < 64 := by omega
  have hx9 : Mx 9 0 = nI a := v0.trans a2
  obtain ⟨st, s1, s2, s3⟩ : ∃ st : Nat → Nat, (∀ h, h < n → fStr (Mm 4 h - Mm 13 (9 + h)) = nI (st h)) ∧ (∀ h, h < n → fStr (Mx 3 h - Mx 11 h) = nI (st h)) ∧ ∀ h, h < 6 → st h ≤ 9 := by
    have ex : ∀ h, h < n → ∃ k, k ≤ 9 ∧ fStr (Mm 4 h - Mm 13 (9 + h)) = nI k ∧ fStr (Mx 3 h - Mx 11 h) = nI k := fun h hh => by
      obtain ⟨v, q1, q2, q3⟩ := t4 h hh
      obtain ⟨w, r1, r2⟩ := h6 h (by omega)
      have r2 : Mm 13 (9 + h) = nI w := by simpa using r2
      exact ⟨v - w, by omega, by rw [q2, r2, fStr_sub (by omega) (by omega)], by rw [q3, w9 h (by omega), r2, fStr_sub (by omega) (by omega)]⟩
    refine ⟨fun h => if hh : h < n then Classical.choose (ex h hh) else 0, fun h hh => ?_, fun h hh => ?_, fun h hh => ?_⟩
    · have := Classical.choose_spec (ex h hh); dsimp only; rw [dif_pos hh]; exact this.2.1
    · have := Classical.choose_spec (ex h hh); dsimp only; rw [dif_pos hh]; exact this.2.2
    · dsimp only
      by_cases y : h < n
      · have := Classical.choose_spec (ex h y); rw [dif_pos y]; exact this.1
      · rw [dif_neg y]; omega
  have hout : ∀ h, n ≤ h → a.testBit h = false := fun h hh => Nat.testBit_lt_two_pow (Nat.lt_of_lt_of_le a1 (Nat.pow_le_pow_right (by decide) hh))
  have hFx : ∀ t, t < 64 → a &&& t = t → sumTo (fun h => if fAb (nI t) (nI h) = 0 then 0 else fStr (Mx 3 h - Mx 11 h)) 6 = nI (FsN st t 6) ∧ FsN st t 6 < 2 ^ 30 := fun t t64 e => by
    refine ⟨FsN_nI (fun i hi => ?_) 6 (by omega), by have := FsN_le (t := t) s3 6 (by omega); omega⟩
    rw [fAb_nI t t64 i hi]
    cases et : t.testBit i with
    | false => rfl
    | true =>
      have hin : i < n := Classical.byContradiction fun y => by
        have := (in_sub a a64 t t64 e i hi).1 et
        rw [hout i (by omega)] at this; cases this
      rw [if_neg (by decide), s2 i hin]; rfl
  have hFm : ∀ t, t < 64 → a &&& t = t → sumTo (fForce (nI a) (nI t) (fun h => fStr (Mm 4 h - Mm 13 (9 + h)))) n = nI (FsN st (a ^^^ t) 6) ∧ FsN st (a ^^^ t) 6 < 2 ^ 30 := fun t t64 e => by
    refine ⟨?_, by have := FsN_le (t := a ^^^ t) s3 6 (by omega); omega⟩
    rw [← FsN_nI (f := fun h => nI (bif (a ^^^ t).testBit h then st h else 0)) (fun i hi => rfl) 6 (by omega)]
    refine (sumTo_ext (fun h hh => ?_) 6 n6 (fun h q1 q2 => ?_)).symm
    · unfold fForce
      dsimp only
      rw [(in_sub a a64 t t64 e h (by omega)).2, fAb_nI a a64 h (by omega), s1 h hh]
      have bt := fAb_zero (nI t) (nI h)
      rw [fAb_nI t t64 h (by omega)] at bt
      cases ea : a.testBit h with
      | false => rfl
      | true =>
        rw [if_neg (by decide)]
        cases et : t.testBit h with
        | true => rw [et] at bt; rw [if_neg (fun y => absurd (bt.mpr y) (by decide))]; rfl
        | false => rw [et] at bt; rw [if_pos (bt.mp rfl)]; rfl
    · rw [(in_sub a a64 t t64 e h q2).2, hout h q1]; rfl
  have gl : ∀ j, j < ns → ∃ v, v ≤ 60 ∧ Mm 8 j = nI v ∧ Mx 6 j = nI v := tg
  let gf : Nat → Nat := fun j => if hh : j < ns then Classical.choose (gl j hh) else 0
  have gm : ∀ j, j < ns → Mm 8 j = nI (gf j) ∧ gf j < 2 ^ 30 := fun j hj => by
    have := Classical.choose_spec (gl j hj); simp only [gf]; rw [dif_pos hj]; exact ⟨this.2.1, by omega⟩
  have gx : ∀ j, j < ns → Mx 6 j = nI (gf j) ∧ gf j < 2 ^ 30 := fun j hj => by
    have := Classical.choose_spec (gl j hj); simp only [gf]; rw [dif_pos hj]; exact ⟨this.2.2, by omega⟩
  have rv : ∀ x gn, sumN (tmW a x gn (fun t => FsN st t 6)) 64 = sumN (tmS a x gn (fun t => FsN st t 6)) (2 ^ n) := fun x gn => odds_rev a64 a1 n6
  have hU : ∀ x gn, x ≤ 10 → sumN (tmS a x gn (fun t => FsN st t 6)) (2 ^ n) < 2 ^ 30 := fun x gn hx => by
    rw [← rv]
    have := sumN_le (f := tmW a x gn (fun t => FsN st t 6)) 64 (fun i hi => tmW_le a64 hi hx)
    omega
  rcases ix_cases s (n := ns) (by omega) with ⟨g, bad⟩ | ⟨j, hj, rfl, bad, uq⟩
  · exact step_read hR (.int (-1)) (fun Q hQ => cm_odds hn n6 hs n5 a2 a1 a64 gm hFm hU (fun _ => hQ) (fun j x hj e => (bad j hj e).elim)) (fun Q hQ => cx_odds hs' n5 hx9 a64 gx hFx (fun _ => hQ) (fun j x hj e => (bad j hj e).elim))
  have f10 : ∀ x, x ≤ 10 → ¬ fIn (nI x) 0 10 = 0 := fun x hx => by
    have : ∀ x, x < 11 → ¬ fIn (nI x) 0 10 = 0 := by decide +kernel
    exact this x (by omega)
  by_cases hb : fIn xv 0 10 = 0 ∨ fIn wv 0 1 = 0
  · exact step_read hR (.int (-1)) (fun Q hQ => cm_odds hn n6 hs n5 a2 a1 a64 gm hFm hU (fun _ => hQ) (fun j x _ _ hx e y => absurd hb (fun z => z.elim (by rw [e]; exact f10 x hx) y))) (fun Q hQ => cx_odds hs' n5 hx9 a64 gx hFx (fun _ => hQ) (fun j x _ _ hx e y => absurd hb (fun z => z.elim (by rw [e]; exact f10 x hx) y)))
  obtain ⟨x, hx, rfl⟩ : ∃ x, x ≤ 10 ∧ xv = nI x := by
    rcases pk_ix xv (n := 11) (by decide) with q | q | ⟨x, hx, rfl⟩
    · exact absurd (Or.inl (by unfold fIn; rw [if_pos q])) hb
    · refine absurd (Or.inl ?_) hb
      unfold fIn
      by_cases q2 : xv < 0
      · rw [if_pos q2]
      · rw [if_neg q2, if_pos (Int32.lt_of_lt_of_le (show (10 : Int32) < nI 11 by decide) q)]
    · exact ⟨x, by omega, rfl⟩
  refine step_read hR (.int (oddsR (sumN (tmS a x (gf j) (fun t => FsN st t 6)) (2 ^ n)) (10 ^ pc6 a) wv)) (fun Q hQ => cm_odds hn n6 hs n5 a2 a1 a64 gm hFm hU (fun z => absurd z (fun z => z.elim bad hb)) (fun j' x' hj' e1 hx' e2 y => ?_)) (fun Q hQ => cx_odds hs' n5 hx9 a64 gx hFx (fun z => absurd z (fun z => z.elim bad hb)) (fun j' x' hj' e1 hx' e2 y => ?_))
  · cases uq j' hj' e1
    cases (nI_eq (by omega) (by omega)).mp e2
    exact hQ
  · cases uq j' hj' e1
    cases (nI_eq (by omega) (by omega)).mp e2
    rw [rv]
    exact hQ
end SD10
