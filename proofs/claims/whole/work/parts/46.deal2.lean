/-! ===== deal: the model ===== -/
theorem cm_farBy2 {d n np a code P : Nat} {wo pa : Nat → Nat} {M : AM} {L : AL} {Q : QT} (hn : M 2 0 = nI n) (n6 : n ≤ 6) (hp : M 10 0 = nI np) (p5 : np ≤ 5) (ha : M 13 0 = nI a) (a64 : a < 64) (hout : ∀ h, n ≤ h → a.testBit h = false)
    (hwo : ∀ p, p < np → M 11 p = nI (wo p)) (wb : ∀ p, wo p ≤ 99) (hpa : ∀ h, h < 6 → fPart (M 13 0) (M 13 1) (M 3) h = nI (pa h)) (pb : ∀ h, pa h ≤ 18) (pz : ∀ h, h < 6 → a.testBit h = false → pa h = 0) (hP : sumTo (fPart (M 13 0) (M 13 1) (M 3)) n = nI P) (P108 : P ≤ 108) (c31 : code < 2 ^ 31)
    (hq : ∀ f, Q (some (.int (if okN a.testBit np code then nI (dD wo pa P (alN wo np) np code) else -9))) Sm (sr M 16 f) L) : okN a.testBit np code = true → ∀ f v3, (∀ h, h < 6 → f h = nI (gvN wo np code h)) → ∀ k, k ≤ n → ∀ v6, AW E8_farBy (d + 4) 0 Sm.length Q 106 [some (.ref 0), some (.int (nI code)), some (.int (nI (alN wo np))), v3, some (.int (nI (dsN P (alN wo np) pa (gvN wo np code) (n - k)))), some (.int (nI (n - k))), v6] [] Sm (sr M 16 f) L 0 := by
  have alb : ∀ i, alN wo i ≤ i * 99 := fun i => by
    induction i with
    | zero => exact Nat.zero_le _
    | succ i ih => have := wb i; rw [alN, Nat.succ_mul]; omega
  intro hok f v3 hf
  have hb : ∀ h, gvN wo np code h * P < 2 ^ 30 ∧ pa h * alN wo np < 2 ^ 30 := fun h => by
    have h1 := gvN_le wb np code h
    have h2 : gvN wo np code h * P ≤ 495 * 108 := Nat.mul_le_mul (by omega) P108
    have h3 : pa h * alN wo np ≤ 18 * 495 := Nat.mul_le_mul (pb h) (by have := alb np; omega)
    omega
  have zr : ∀ i, i < 6 → a.testBit i = false → ad (gvN wo np code i * P) (pa i * alN wo np) = 0 := fun i hi e => by
    rw [gvN_zero e np code hok, pz i hi e, Nat.zero_mul, Nat.zero_mul]; rfl
  have top : ∀ i, n ≤ i → i ≤ 6 → dsN P (alN wo np) pa (gvN wo np code) i = dsN P (alN wo np) pa (gvN wo np code) n := by
    intro i h1
    induction i with
    | zero => intro _; rw [show n = 0 by omega]
    | succ i ih =>
      intro h2
      by_cases e : n = i + 1
      · rw [e]
      · rw [dsN, zr i (by omega) (hout i (by omega)), Nat.max_zero, ih (by omega) (by omega)]
  have dlt : ∀ i, dsN P (alN wo np) pa (gvN wo np code) i < 2 ^ 30 := fun i => by
    have := dsN_le (P := P) (al := alN wo np) (pa := pa) (g := gvN wo np code) (B := 2 ^ 30 - 1) i (fun h _ => by have := hb h; omega)
    omega
  intro k
  induction k with
  | zero =>
    intro _ v6
    rw [Nat.sub_zero]
    refine aw_run ok8_farBy (at1 106) 40 ?_
    refine inBI 0 rfl (by decide) ?_
    refine ifT (c := M 2 0 ≤ nI n) (by rw [hn]; exact Int32.le_refl _) ?_
    have := hq f
    rw [if_pos hok] at this
    unfold dD at this
    rw [top 6 n6 (by omega)] at this
    exact this
  | succ k ih =>
    intro hk v6
    obtain ⟨i, hi⟩ : ∃ i, n - k = i + 1 := ⟨n - k - 1, by omega⟩
    have ih := ih (by omega)
    rw [hi, nI_succ] at ih
    rw [show n - (k + 1) = i by omega]
    have i6 : i < 6 := by omega
    have tail : ∀ X, X < 2 ^ 30 → dsN P (alN wo np) pa (gvN wo np code) (i + 1) = max (dsN P (alN wo np) pa (gvN wo np code) i) X → AW E8_farBy (d + 4) 0 Sm.length Q 180 [some (.ref 0), some (.int (nI code)), some (.int (nI (alN wo np))), v3, some (.int (nI (dsN P (alN wo np) pa (gvN wo np code) i))), some (.int (nI i)), some (.int (nI X))] [] Sm (sr M 16 f) L 0 := by
      intro X b3 eX
      have b4 := dlt i
      rw [eX] at ih
      refine aw_run ok8_farBy (at1 106) 60 ?_
      refine iteI (fun (y : nI X ≤ nI (dsN P (alN wo np) pa (gvN wo np code) i)) => ?_) (fun (y : ¬ nI X ≤ nI (dsN P (alN wo np) pa (gvN wo np code) i)) => ?_)
      · rw [nI_leI (by omega) (by omega)] at y
        rw [Nat.max_eq_left y] at ih
        exact ih _
      · rw [nI_leI (by omega) (by omega)] at y
        rw [Nat.max_eq_right (by omega)] at ih
        exact ih _
    refine aw_run ok8_farBy (at2 106 180) 60 ?_
    refine inBI 0 rfl (by decide) ?_
    refine ifF (c := M 2 0 ≤ nI i) (by rw [hn]; exact nI_ge (by omega) (by omega)) ?_
    refine cm_isAboard (Or.inl rfl) ?_
    have fa := fAb_nI a a64 i i6
    have e13 : sr M 16 f 13 = M 13 := sr_ne _ _ (by decide)
    have e3 : sr M 16 f 3 = M 3 := sr_ne _ _ (by decide)
    have e2 : sr M 16 f 2 = M 2 := sr_ne _ _ (by decide)
    cases et : a.testBit i with
    | false =>
      rw [et] at fa
      refine ifT (c := fAb (sr M 16 f 13 0) (nI i) = 0) (by rw [e13, ha]; exact fa) ?_
      exact tail 0 (by decide) (by rw [dsN, zr i i6 et])
    | true =>
      rw [et] at fa
      refine ifF (c := fAb (sr M 16 f 13 0) (nI i) = 0) (by rw [e13, ha, fa]; decide) ?_
      refine inBI (n := 6) i rfl i6 ?_
      refine cm_parts (Or.inl rfl) (by rw [e2]; exact hn) n6 ?_
      refine cm_part (Or.inl rfl) i6 ?_
      have x3 : sr M 16 f 16 i * sumTo (fPart (sr M 16 f 13 0) (sr M 16 f 13 1) (sr M 16 f 3)) n - fPart (sr M 16 f 13 0) (sr M 16 f 13 1) (sr M 16 f 3) i * nI (alN wo np) = nI (gvN wo np code i * P) - nI (pa i * alN wo np) := by rw [sr_at, e13, e3, hP, hf i i6, pk_mul, hpa i i6, pk_mul]
      obtain ⟨b1, b2⟩ := hb i
      have t0 := tail (ad (gvN wo np code i * P) (pa i * alN wo np)) (by unfold ad; omega) rfl
      refine iteI (fun (y : 0 ≤ sr M 16 f 16 i * sumTo (fPart (sr M 16 f 13 0) (sr M 16 f 13 1) (sr M 16 f 3)) n - fPart (sr M 16 f 13 0) (sr M 16 f 13 1) (sr M 16 f 3) i * nI (alN wo np)) => ?_) (fun (y : ¬ 0 ≤ sr M 16 f 16 i * sumTo (fPart (sr M 16 f 13 0) (sr M 16 f 13 1) (sr M 16 f 3)) n - fPart (sr M 16 f 13 0) (sr M 16 f 13 1) (sr M 16 f 3) i * nI (alN wo np)) => ?_)
      · rw [x3] at y
        rw [← ad_pos b1 b2 y, ← x3] at t0
        exact t0
      · rw [x3] at y
        rw [← ad_neg b1 b2 y, ← x3] at t0
        exact t0
theorem cm_farBy {d n np a code P : Nat} {wo pa : Nat → Nat} {M : AM} {L : AL} {Q : QT} (hn : M 2 0 = nI n) (n6 : n ≤ 6) (hp : M 10 0 = nI np) (p5 : np ≤ 5) (ha : M 13 0 = nI a) (a64 : a < 64) (hout : ∀ h, n ≤ h → a.testBit h = false)
    (hwo : ∀ p, p < np → M 11 p = nI (wo p)) (wb : ∀ p, wo p ≤ 99) (hpa : ∀ h, h < 6 → fPart (M 13 0) (M 13 1) (M 3) h = nI (pa h)) (pb : ∀ h, pa h ≤ 18) (pz : ∀ h, h < 6 → a.testBit h = false → pa h = 0) (hP : sumTo (fPart (M 13 0) (M 13 1) (M 3)) n = nI P) (P108 : P ≤ 108) (c31 : code < 2 ^ 31)
    (hq : ∀ f, Q (some (.int (if okN a.testBit np code then nI (dD wo pa P (alN wo np) np code) else -9))) Sm (sr M 16 f) L) : CW E8_farBy (d + 4) 0 [.ref 0, .int (nI code)] Sm M L Q := by
  have fin := cm_farBy2 (d := d) hn n6 hp p5 ha a64 hout hwo wb hpa pb pz hP P108 c31 hq
  have dig : ∀ j, j ≤ np → ∀ (v A : Nat) (f : Nat → Int32) (G : Nat → Nat) (v5 : Option Value), v < 2 ^ 31 → (∀ h, h < 6 → f h = nI (G h)) → (∀ h, G h + gvN wo j v h = gvN wo np code h) → A + alN wo j = alN wo np → okN a.testBit j v = okN a.testBit np code →
      AW E8_farBy (d + 4) 0 Sm.length Q 35 [some (.ref 0), some (.int (nI code)), some (.int (nI A)), some (.int (nI v)), some (.int (nI j - 1)), v5, none] [] Sm (sr M 16 f) L 0 := by
    intro j
    induction j with
    | zero =>
      intro _ v A f G v5 hv hf hG hA ho
      have k0 := fin ho.symm f (some (.int (nI v))) (fun h hh => by rw [hf h hh, ← hG h]; rfl) n (Nat.le_refl n) none
      rw [Nat.sub_self, ← hA] at k0
      refine aw_run ok8_farBy (at2 35 106) 60 ?_
      exact k0
    | succ j ih =>
      intro hj v A f G v5 hv hf hG hA ho
      rw [nI_pred]
      refine aw_run ok8_farBy (at1 35) 60 ?_
      refine ifF (c := nI j < 0) (nI_pos (by omega)) ?_
      have m6 : v % 6 < 6 := Nat.mod_lt _ (by decide)
      have em : nI v % 6 = nI (v % 6) := nI_mod (b := 6) (by omega) (by decide)
      have ed : nI v / 6 = nI (v / 6) := pk_div (d := 6) hv (by decide) (by decide)
      refine cm_isAboard (Or.inl rfl) ?_
      have fa := fAb_nI a a64 (v % 6) m6
      have e13 : sr M 16 f 13 = M 13 := sr_ne _ _ (by decide)
      have e11 : sr M 16 f 11 = M 11 := sr_ne _ _ (by decide)
      rw [okN] at ho
      cases et : a.testBit (v % 6) with
      | false =>
        rw [et] at fa ho
        rw [Bool.and_false] at ho
        refine ifT (c := fAb (sr M 16 f 13 0) (nI v % 6) = 0) (by rw [em, e13, ha]; exact fa) ?_
        have := hq f
        rw [← ho] at this
        exact this
      | true =>
        rw [et] at fa ho
        rw [Bool.and_true] at ho
        refine ifF (c := fAb (sr M 16 f 13 0) (nI v % 6) = 0) (by rw [em, e13, ha, fa]; decide) ?_
        refine inBI (n := 6) (v % 6) em m6 ?_
        refine inBI (n := 10) j rfl (by omega) ?_
        refine inBI (n := 6) (v % 6) em m6 ?_
        refine inBI (n := 10) j rfl (by omega) ?_
        have ih := ih (by omega) (v / 6) (A + wo j) (upd f (v % 6) (nI (G (v % 6) + wo j))) (fun h => G h + (if h = v % 6 then wo j else 0)) (some (.int (nI v % 6))) (by omega) (fun h hh => by
          unfold upd
          by_cases e : h = v % 6
          · rw [e]; simp
          · simp [e, hf h hh]) (fun h => by
          have := hG h
          rw [gvN] at this
          omega) (by rw [alN] at hA; omega) ho
        rw [nI_dec, ← ed, ← nI_add A, ← hwo j (by omega), ← e11, ← nI_add (G (v % 6)), ← hf _ m6, ← hwo j (by omega), ← e11] at ih
        rw [← um_sr] at ih
        exact ih
  have e0 : sr M 16 (fun j => if j < 0 then 0 else M 16 j) = M := by
    rw [show (fun j => if j < 0 then (0 : Int32) else M 16 j) = M 16 from funext fun j => if_neg (Nat.not_lt_zero j)]
    exact sr_self M 16
  refine cw_ent ok8_farBy (at2 2 35) 60 ?_
  refine cast (congrArg (fun z => AW E8_farBy (d + 4) 0 Sm.length Q 2 [some (.ref 0), some (.int (nI code)), some (.int (nI 0)), none, none, none, none] [] Sm z L 0) e0) ?_
  refine aw_loop 6 (fun i => [some (.ref 0), some (.int (nI code)), some (.int (nI i)), none, none, none, none]) (fun i => sr M 16 (fun j => if j < i then 0 else M 16 j)) ?_ ?_
  · refine aw_run ok8_farBy (at1 35) 60 ?_
    refine inBI 0 rfl (by decide) ?_
    have k0 := dig np (Nat.le_refl np) code 0 (fun j => if j < 6 then 0 else M 16 j) (fun _ => 0) none c31 (fun h hh => by rw [if_pos hh]; rfl) (fun h => Nat.zero_add _) (Nat.zero_add _) rfl
    rw [← hp] at k0
    exact k0
  · intro i hi ih
    rw [nI_succ] at ih
    refine aw_run ok8_farBy (at1 2) 30 ?_
    refine ifF (nI_ge (b := 6) hi (by decide)) ?_
    refine inBI (n := 6) i rfl hi ?_
    refine cast (congrArg (fun z => AW E8_farBy (d + 4) 0 Sm.length Q 2 [some (.ref 0), some (.int (nI code)), some (.int (nI i + 1)), none, none, none, none] [] Sm z L 0) ?_) ih
    rw [um_sr]
    refine congrArg (sr M 16) ?_
    funext j
    unfold upd
    by_cases e : j = i
    · subst e; simp
    · by_cases e2 : j < i
      · simp [e, e2, show j < i + 1 by omega]
      · simp [e, e2, show ¬ j < i + 1 by omega]
