/-! ===== sharing: the class's calls, and both ===== -/
section CX33
variable {d rot w ch : Nat} {u : Nat → Nat} {M : AM} {L : AL} {Q : QT}
theorem cx_due {n : Nat} {h : Int32} (hn : M 1 0 = nI n) (n6 : n ≤ 6) (hw : M 1 3 = nI w) (hw2 : w < 2 ^ 30) (hc : ch < 2 ^ 30) (hcv : M 9 2 = nI ch) (hu2 : ∀ h, h < 6 → u h < 2 ^ 30) (hu : ∀ h, h < 6 → M 12 h = nI (u h))
    {pt e : Int32} (hpt : sumTo (fPart (M 9 0) (M 9 1) (M 2)) 6 = pt) (he : nI (Cn w u ch 6) / pt = e) (h0 : (h < 0 ∨ nI n ≤ h) → Q (some (.int (-1))) (Sx rot) M L)
    (h1 : ∀ j, j < n → h = nI j → pt ≤ 0 → ∀ R, xj M R → Q (some (.int 0)) (Sx rot) R L)
    (h2 : ∀ j, j < n → h = nI j → ¬ pt ≤ 0 → ∀ R, xj M R → Q (some (.int (nI (w * Pn w u ch j) + e * fPart (M 9 0) (M 9 1) (M 2) j))) (Sx rot) R L) : CW E7_due (d + 5) 0 [.ref 0, .int h] (Sx rot) M L Q := by
  refine cw_ent ok7_due noStop 60 ?_
  refine cx_isHand hn n6 (fun e => h0 e) (fun j hj e => ?_)
  subst e
  refine cx_reckon hw hw2 hc hcv hu2 hu hpt he (fun z R f g p a b => ?_) (fun z R f g p a b => ?_)
  · refine inBI (n := 6) j rfl (by omega) ?_
    rw [g j (by omega)]
    exact h1 j hj rfl z R (fun l hl => f l (by omega))
  · refine inBI (n := 6) j rfl (by omega) ?_
    rw [g j (by omega)]
    exact h2 j hj rfl z R (fun l hl => f l (by omega))
theorem or_z (x : Int32) : x ||| 0 = x := Int32.or_zero
theorem cx_holds {q : Int32} (hw : M 1 3 = nI w) (hw2 : w < 2 ^ 30) (hc : ch < 2 ^ 30) (hcv : M 9 2 = nI ch) (hu2 : ∀ h, h < 6 → u h < 2 ^ 30) (hu : ∀ h, h < 6 → M 12 h = nI (u h))
    {pt e : Int32} (hpt : sumTo (fPart (M 9 0) (M 9 1) (M 2)) 6 = pt) (he : nI (Cn w u ch 6) / pt = e) (h0 : fIn q 0 99 = 0 → Q (some (.int (-1))) (Sx rot) M L)
    (h1 : ¬ fIn q 0 99 = 0 → ∀ g : Nat → Int32, ((pt ≤ 0 ∧ ∀ h, h < 6 → g h = 0) ∨ (¬ pt ≤ 0 ∧ ∀ h, h < 6 → g h = nI (w * Pn w u ch h) + e * fPart (M 9 0) (M 9 1) (M 2) h)) → ∀ R, xj M R → Q (some (.int (holdUp (M 9 0) g q 6))) (Sx rot) R L) : CW E7_holds (d + 5) 0 [.ref 0, .int q] (Sx rot) M L Q := by
  refine cw_ent ok7_holds (at1 31) 60 ?_
  refine iteI (fun z => h0 (by unfold fIn; rw [if_pos z])) (fun z => ?_)
  refine iteI (fun z2 => ?_) (fun z2 => h0 (by unfold fIn; rw [if_neg z, if_pos (Int32.not_le.mp z2)]))
  have hf : ¬ fIn q 0 99 = 0 := by
    unfold fIn
    rw [if_neg z, if_neg (Int32.not_lt.mpr z2)]
    decide
  have hq := h1 hf
  have loop : ∀ R : AM, R 9 = M 9 → Q (some (.int (holdUp (M 9 0) (R 20) q 6))) (Sx rot) R L → AW E7_holds (d + 5) 0 (Sx rot).length Q 31 [some (.ref 0), some (.int q), some (.int 0), some (.int (nI 0))] [] (Sx rot) R L 0 := by
    intro R r9 hR
    refine aw_loop 6 (fun i => [some (.ref 0), some (.int q), some (.int (holdUp (M 9 0) (R 20) q i)), some (.int (nI i))]) (fun _ => R) ?_ ?_
    · refine aw_run ok7_holds (at1 31) 60 ?_
      exact hR
    · intro i hi ih
      rw [nI_succ] at ih
      unfold holdUp at ih
      refine aw_run ok7_holds (at1 31) 60 ?_
      refine ifF (nI_ge (b := 6) hi (by decide)) ?_
      refine cx_has hi ?_
      rw [r9]
      refine iteI (fun y => ?_) (fun y => ?_)
      · rw [if_pos y, or_z] at ih; exact ih
      · rw [if_neg y] at ih
        refine inBI (n := 6) i rfl hi ?_
        refine iteI (fun y2 => ?_) (fun y2 => ?_)
        · rw [if_pos y2, or_z] at ih; exact ih
        · rw [if_neg y2] at ih; exact ih
  refine cx_reckon hw hw2 hc hcv hu2 hu hpt he (fun z R f g p a b => ?_) (fun z R f g p a b => ?_)
  · exact loop R (f 9 (by omega)) (hq (R 20) (Or.inl ⟨z, g⟩) R (fun l hl => f l (by omega)))
  · exact loop R (f 9 (by omega)) (hq (R 20) (Or.inr ⟨z, g⟩) R (fun l hl => f l (by omega)))
def sxM (R : AM) (i : Nat) : AM := sr (sr R 10 (fun j => if j < i then R 10 j + R 20 j else R 10 j)) 12 (fun j => if j < i then R 12 j - R 21 j else R 12 j)
theorem cx_shares {k : Nat} (hk : M 15 1 = nI k) (hk10 : k ≤ 10) (hw : M 1 3 = nI w) (hw2 : w < 2 ^ 30) (hc : ch < 2 ^ 30) (hcv : M 9 2 = nI ch) (hu2 : ∀ h, h < 6 → u h < 2 ^ 30) (hu : ∀ h, h < 6 → M 12 h = nI (u h))
    {pt e : Int32} (hpt : sumTo (fPart (M 9 0) (M 9 1) (M 2)) 6 = pt) (he : nI (Cn w u ch 6) / pt = e) (hp0 : ¬ M 9 0 = 0 → ¬ pt ≤ 0) (h0 : M 9 0 = 0 → Q (some (.int (-2))) (Sx rot) M L)
    (h1 : ¬ M 9 0 = 0 → ∀ rot' Mr, rem M Mr rot rot' k → ∀ R, (∀ l, l < 19 ∨ 21 < l → R l = Mr l) → (∀ h, h < 6 → R 20 h = nI (w * Pn w u ch h) + e * fPart (M 9 0) (M 9 1) (M 2) h) → (∀ h, h < 6 → R 21 h = nI (Pn w u ch h)) → Q (some (.int e)) (Sx rot') (um (sxM R 6) 9 2 (nI (Cn w u ch 6) - e * pt)) L) : CW E7_shares (d + 5) 0 [.ref 0] (Sx rot) M L Q := by
  refine cw_ent ok7_shares (at1 37) 60 ?_
  refine iteI (fun z => h0 z) (fun z => ?_)
  refine cx_rem hk hk10 (fun rot' Mr hr => ?_)
  have hq := h1 z rot' Mr hr
  have r1 := hr.1 1 (by omega)
  have r2 := hr.1 2 (by omega)
  have r9 := hr.1 9 (by omega)
  have r12 := hr.1 12 (by omega)
  refine cx_reckon (M := Mr) (w := w) (ch := ch) (u := u) (pt := pt) (e := e) (by rw [r1]; exact hw) hw2 hc (by rw [r9]; exact hcv) hu2 (fun h hh => by rw [r12]; exact hu h hh) (by rw [r9, r2]; exact hpt) he (fun z2 R f g p a b => absurd z2 (hp0 z)) (fun z2 R f g p a b => ?_)
  rw [r9, r2] at g
  have hq := hq R f g p
  have key : AW E7_shares (d + 5) 0 (Sx rot).length Q 37 [some (.ref 0), some (.int (nI 0))] [] (Sx rot') (sxM R 0) L 0 := by
    refine aw_loop 6 (fun i => [some (.ref 0), some (.int (nI i))]) (fun i => sxM R i) ?_ ?_
    · have s193 : sxM R 6 19 3 = nI (Cn w u ch 6) - e * pt := by unfold sxM; rw [sr_ne _ _ (by decide), sr_ne _ _ (by decide), b]
      have s192 : sxM R 6 19 2 = e := by unfold sxM; rw [sr_ne _ _ (by decide), sr_ne _ _ (by decide), a]
      rw [← s193] at hq
      have e2 : um (sxM R 6) 9 2 (sxM R 6 19 3) 19 2 = e := by rw [um_ne _ _ _ (by decide), s192]
      rw [← e2] at hq
      refine aw_run ok7_shares (at1 37) 60 ?_
      exact hq
    · intro i hi ih
      rw [nI_succ] at ih
      refine aw_run ok7_shares (at1 37) 60 ?_
      refine ifF (nI_ge (b := 6) hi (by decide)) ?_
      refine inBI (n := 6) i rfl hi ?_
      refine inBI (n := 6) i rfl hi ?_
      refine inBI (n := 6) i rfl hi ?_
      refine inBI (n := 6) i rfl hi ?_
      refine inBI (n := 6) i rfl hi ?_
      refine inBI (n := 6) i rfl hi ?_
      refine cast (congrArg (fun z => AW E7_shares (d + 5) 0 (Sx rot).length Q 37 [some (.ref 0), some (.int (nI i + 1))] [] (Sx rot') z L 0) ?_) ih
      have t10 : sxM R i 10 i = R 10 i := by unfold sxM; rw [sr_ne _ _ (by decide), sr_at, if_neg (by omega)]
      have t12 : sxM R i 12 i = R 12 i := by unfold sxM; rw [sr_at, if_neg (by omega)]
      have t20 : sxM R i 20 = R 20 := by unfold sxM; rw [sr_ne _ _ (by decide), sr_ne _ _ (by decide)]
      have t21 : sxM R i 21 = R 21 := by unfold sxM; rw [sr_ne _ _ (by decide), sr_ne _ _ (by decide)]
      rw [um_ne _ _ _ (show (12 : Nat) ≠ 10 by decide), um_ne _ _ _ (show (21 : Nat) ≠ 10 by decide), t10, t12, t20, t21]
      funext l j
      unfold sxM
      simp only [um_app, sr_app]
      by_cases l12 : l = 12
      · subst l12
        by_cases ji : j = i
        · subst ji; simp
        · by_cases jl : j < i
          · simp [ji, jl, show j < i + 1 by omega]
          · simp [ji, jl, show ¬ j < i + 1 by omega]
      by_cases l10 : l = 10
      · subst l10
        by_cases ji : j = i
        · subst ji; simp
        · by_cases jl : j < i
          · simp [ji, jl, show j < i + 1 by omega]
          · simp [ji, jl, show ¬ j < i + 1 by omega]
      simp [l10, l12]
  have e0 : sxM R 0 = R := by
    funext l j
    unfold sxM
    simp only [sr_app]
    by_cases l12 : l = 12
    · subst l12; simp
    by_cases l10 : l = 10
    · subst l10; simp
    simp [l10, l12]
  rw [e0] at key
  exact key
end CX33
