/-! ===== deal: the class's call, side by side ===== -/
theorem alN_le {wo : Nat → Nat} (wb : ∀ p, wo p ≤ 99) : ∀ i, alN wo i ≤ i * 99
  | 0 => Nat.zero_le _
  | i + 1 => by have h1 := alN_le wb i; have := wb i; rw [alN, Nat.succ_mul]; omega
theorem deal_b {wo pa : Nat → Nat} {P np : Nat} (p5 : np ≤ 5) (wb : ∀ p, wo p ≤ 99) (pb : ∀ h, pa h ≤ 18) (P108 : P ≤ 108) : ∀ m cd h, m ≤ np → gvN wo m cd h * P < 2 ^ 29 ∧ pa h * alN wo np < 2 ^ 29 := fun m cd h hm => by
  have h1 := gvN_le wb m cd h
  have h2 : gvN wo m cd h * P ≤ 495 * 108 := Nat.mul_le_mul (by omega) P108
  have h3 : pa h * alN wo np ≤ 18 * 495 := Nat.mul_le_mul (pb h) (by have := alN_le wb np; omega)
  omega
theorem dD_lt {wo pa : Nat → Nat} {P np : Nat} (p5 : np ≤ 5) (wb : ∀ p, wo p ≤ 99) (pb : ∀ h, pa h ≤ 18) (P108 : P ≤ 108) (i : Nat) : dD wo pa P (alN wo np) np i < 2 ^ 30 := by
  have := dsN_le (P := P) (al := alN wo np) (pa := pa) (g := gvN wo np i) (B := 2 ^ 30 - 1) 6 (fun h _ => by have := deal_b p5 wb pb P108 np i h (Nat.le_refl _); omega)
  unfold dD
  omega
theorem mxI : nI MX = 2147483647 := by decide
theorem cx_dealR {d rot np a P : Nat} {wo pa : Nat → Nat} {M : AM} {L : AL} {Q : QT} (hp : M 1 2 = nI np) (p5 : np ≤ 5) (ha : M 9 0 = nI a) (a64 : a < 64) (hw : ∀ p, p < np → M 8 p = nI (wo p)) (wb : ∀ p, wo p ≤ 99) (hpa : ∀ h, h < 6 → fPart (M 9 0) (M 9 1) (M 2) h = nI (pa h)) (pb : ∀ h, pa h ≤ 18) (hP : sumTo (fPart (M 9 0) (M 9 1) (M 2)) 6 = nI P) (P108 : P ≤ 108)
    (hq : ∀ M', DGm M M' wo pa P (alN wo np) np 0 0 (scn a.testBit (dD wo pa P (alN wo np) np) np 0 (MX, 0)) → Q none (Sx rot) M' L) : CW E0_reckon (d + np + 4) 0 [.ref 22, .ref 1, .ref 9] (Sx rot) M L Q := by
  refine cw_ent ok0_reckon (at1 5) 60 ?_
  refine aw_loop np (fun i => [some (.ref 22), some (.ref 1), some (.ref 9), some (.int (nI (alN wo i))), some (.int (nI i))]) (fun _ => M) ?_ ?_
  · refine aw_run ok0_reckon (at1 42) 60 ?_
    refine ifT (c := M 1 2 ≤ nI np) (by rw [hp]; exact Int32.le_refl _) ?_
    refine cx_allParts (d := d + np) ?_
    generalize hM1 : um M 22 4 (sumTo (fPart (M 9 0) (M 9 1) (M 2)) 6) = M1
    have f1 : ∀ l, l ≠ 22 → M1 l = M l := fun l hl => by rw [← hM1, um_ne _ _ _ hl]
    have f2 : M1 22 4 = nI P := by rw [← hM1, um_same]; exact hP
    have lp : AW E0_reckon (d + np + 4) 0 (Sx rot).length Q 42 [some (.ref 22), some (.ref 1), some (.ref 9), some (.int (nI (alN wo np))), some (.int (nI 0))] [] (Sx rot) (sr M1 25 (fun j => if j < 0 then (- (nI (pa j))) * nI (alN wo np) else M1 25 j)) L 0 := by
      refine aw_loop 6 (fun i => [some (.ref 22), some (.ref 1), some (.ref 9), some (.int (nI (alN wo np))), some (.int (nI i))]) (fun i => sr M1 25 (fun j => if j < i then (- (nI (pa j))) * nI (alN wo np) else M1 25 j)) ?_ ?_
      · refine aw_run ok0_reckon (at1 42) 60 ?_
        generalize hM2 : sr M1 25 (fun j => if j < 6 then (- (nI (pa j))) * nI (alN wo np) else M1 25 j) = M2
        have g1 : ∀ l, l ≠ 22 → l ≠ 25 → M2 l = M l := fun l h1 h2 => by rw [← hM2, sr_ne _ _ h2]; exact f1 l h1
        refine cx_give (d := d) (rot := rot) (L := L) (M0 := M) (wo := wo) (pa := pa) (P := P) (al := alN wo np) (np := np) (a := a) p5 a64 (deal_b p5 wb pb P108) hp ha hw np 0 0 (MX, 0) (um M2 22 1 2147483647) _ (Nat.zero_add np) (Nat.le_refl _) ⟨fun l hl => ?_, ?_, ?_, fun p hp => absurd hp (by omega), fun h hh => ?_, fun y => absurd y (Nat.lt_irrefl _)⟩ (fun M' h' => hq M' h')
        · rw [um_ne _ _ _ (by omega)]; exact g1 l (by omega) (by omega)
        · rw [um_oth _ _ _ (by decide), ← hM2, sr_ne _ _ (by decide)]; exact f2
        · rw [um_same]; exact mxI.symm
        · rw [um_ne _ _ _ (by decide), ← hM2, sr_at, if_pos hh, gvN, Nat.zero_mul, ← pk_mul, Int32.neg_mul, ← Int32.zero_sub]; rfl
      · intro i hi ih
        rw [nI_succ] at ih
        refine aw_run ok0_reckon (at1 42) 60 ?_
        refine ifF (nI_ge (b := 6) hi (by decide)) ?_
        refine cx_partOf (d := d + np + 1) hi ?_
        refine inBI (n := 6) i rfl hi ?_
        have e1 : ∀ g : Nat → Int32, sr M1 25 g 9 = M 9 := fun g => by rw [sr_ne _ _ (by decide)]; exact f1 9 (by decide)
        have e2 : ∀ g : Nat → Int32, sr M1 25 g 2 = M 2 := fun g => by rw [sr_ne _ _ (by decide)]; exact f1 2 (by decide)
        refine cast (congrArg (fun z => AW E0_reckon (d + np + 4) 0 (Sx rot).length Q 42 [some (.ref 22), some (.ref 1), some (.ref 9), some (.int (nI (alN wo np))), some (.int (nI i + 1))] [] (Sx rot) z L 0) ?_) ih
        rw [e1, e2, um_sr, hpa i hi]
        refine congrArg (sr M1 25) ?_
        funext j
        unfold upd
        by_cases e : j = i
        · subst e; simp
        · by_cases e3 : j < i
          · simp [e, e3, show j < i + 1 by omega]
          · simp [e, e3, show ¬ j < i + 1 by omega]
    rw [show (fun j => if j < 0 then (- (nI (pa j))) * nI (alN wo np) else M1 25 j) = M1 25 from funext fun j => if_neg (Nat.not_lt_zero j), sr_self] at lp
    subst hM1
    exact lp
  · intro i hi ih
    rw [nI_succ, alN, ← nI_add, ← hw i hi] at ih
    refine aw_run ok0_reckon (at1 5) 60 ?_
    refine ifF (c := M 1 2 ≤ nI i) (by rw [hp]; exact nI_ge hi (by omega)) ?_
    refine inBI (n := 5) i rfl (by omega) ?_
    exact ih
theorem cx_deal {d rot np a P : Nat} {p : Int32} {wo pa : Nat → Nat} {M : AM} {L : AL} {Q : QT} (hp : M 1 2 = nI np) (p5 : np ≤ 5) (ha : M 9 0 = nI a) (a64 : a < 64) (hw : ∀ p, p < np → M 8 p = nI (wo p)) (wb : ∀ p, wo p ≤ 99) (hpa : ∀ h, h < 6 → fPart (M 9 0) (M 9 1) (M 2) h = nI (pa h)) (pb : ∀ h, pa h ≤ 18) (hP : sumTo (fPart (M 9 0) (M 9 1) (M 2)) 6 = nI P) (P108 : P ≤ 108)
    {s : Nat × Nat} (hs : scn a.testBit (dD wo pa P (alN wo np) np) np 0 (MX, 0) = s) (sM : ¬ a = 0 → s.1 < MX)
    (h1 : (p < -1 ∨ nI np ≤ p) → Q (some (.int (-1))) (Sx rot) M L) (h2 : ¬ (p < -1 ∨ nI np ≤ p) → a = 0 → Q (some (.int (-9))) (Sx rot) M L)
    (h3 : ¬ a = 0 → p = -1 → ∀ M', xj M M' → Q (some (.int (nI s.1))) (Sx rot) M' L) (h4 : ¬ a = 0 → ∀ j, j < np → p = nI j → ∀ M', xj M M' → Q (some (.int (nI (dgN np s.2 j)))) (Sx rot) M' L) : CW E7_deal (d + np + 5) 0 [.ref 0, .int p] (Sx rot) M L Q := by
  have a0 : M 9 0 = 0 ↔ a = 0 := by
    rw [ha]; exact nI_eq (b := 0) (by omega) (by decide)
  have rk : ∀ Q' : QT, (¬ a = 0 → ∀ M', DGm M M' wo pa P (alN wo np) np 0 0 s → Q' none (Sx rot) M' L) → ¬ a = 0 → CW E0_reckon (d + np + 4) 0 [.ref 22, .ref 1, .ref 9] (Sx rot) M L Q' := fun Q' hQ' az => cx_dealR hp p5 ha a64 hw wb hpa pb hP P108 (fun M' h' => hQ' az M' (by rw [hs] at h'; exact h'))
  have xjD : ∀ M', DGm M M' wo pa P (alN wo np) np 0 0 s → xj M M' := fun M' h' l hl => h'.1 l (by omega)
  refine cw_ent ok7_deal noStop 60 ?_
  refine iteI (fun (e : p = -1) => ?_) (fun (e : ¬ p = -1) => ?_)
  · subst e
    have ng : ¬ ((-1 : Int32) < -1 ∨ nI np ≤ -1) := fun y => y.elim (by decide) (fun z => nI_ge (a := 0) (b := np + 1) (by omega) (by omega) (by
      have := Int32.le_trans (nI_pos' (n := np) (by omega)) z
      exact absurd this (by decide)))
    refine iteI (fun (y : M 9 0 = 0) => ?_) (fun (y : ¬ M 9 0 = 0) => ?_)
    · exact h2 ng (a0.mp y)
    · have az : ¬ a = 0 := fun z => y (a0.mpr z)
      refine rk _ (fun _ M' h' => ?_) az
      have := h3 az rfl M' (xjD M' h')
      rw [← h'.2.2.1] at this
      exact this
  · refine cx_isPiece hp (by omega) (fun y => ?_) (fun j hj ej => ?_)
    · refine h1 ?_
      rcases y with y | y
      · refine Or.inl ?_
        rw [Int32.lt_iff_toInt_lt] at y ⊢
        have z0 : (0 : Int32).toInt = 0 := by decide
        have z1 : (-1 : Int32).toInt = -1 := by decide
        have : ¬ p.toInt = -1 := fun z => e (Int32.toInt_inj.mp (by omega))
        omega
      · exact Or.inr y
    · subst ej
      have ng : ¬ (nI j < -1 ∨ nI np ≤ nI j) := fun y => y.elim (fun z => nI_pos (n := j) (by omega) (Int32.lt_trans z (by decide))) (fun z => nI_ge hj (by omega) z)
      refine iteI (fun (y : M 9 0 = 0) => ?_) (fun (y : ¬ M 9 0 = 0) => ?_)
      · exact h2 ng (a0.mp y)
      · have az : ¬ a = 0 := fun z => y (a0.mpr z)
        refine rk _ (fun _ M' h' => ?_) az
        refine ifF (c := nI j = -1) e ?_
        refine inBI (n := 5) j rfl (by omega) ?_
        have := h4 az j hj rfl M' (xjD M' h')
        rw [← h'.2.2.2.2.2 (sM az) j hj] at this
        exact this
section SD11
variable {c rot : Nat} {Mm : AM} {Lm : AL} {Mx : AM} {Lx : AL}
theorem mj_16 (M : AM) (f : Nat → Int32) : mj M (sr M 16 f) := ⟨fun l h1 h2 => sr_ne _ _ (by omega), by rw [sr_ne _ _ (by decide)], by rw [sr_ne _ _ (by decide)]⟩
theorem scn_arg {ab : Nat → Bool} {D : Nat → Nat} : ∀ k cd s, (scn ab D k cd s).2 < (cd + 1) * 6 ^ k ∨ (scn ab D k cd s).2 = s.2
  | 0, cd, s => by
    rw [scn, upS]
    by_cases y : D cd < s.1
    · rw [if_pos y]; exact Or.inl (by show cd < _; omega)
    · rw [if_neg y]; exact Or.inr rfl
  | k + 1, cd, s => by
    rw [scn]
    have key : ∀ c lo s, lo + c ≤ 6 → (fld (fun h s => if ab h then scn ab D k (6 * cd + h) s else s) lo c s).2 < (cd + 1) * 6 ^ (k + 1) ∨ (fld (fun h s => if ab h then scn ab D k (6 * cd + h) s else s) lo c s).2 = s.2 := by
      intro c
      induction c with
      | zero => intro lo s _; exact Or.inr rfl
      | succ c ih =>
        intro lo s hlo
        rw [fld]
        rcases ih (lo + 1) (if ab lo then scn ab D k (6 * cd + lo) s else s) (by omega) with h | h
        · exact Or.inl h
        · rw [h]
          by_cases z : ab lo = true
          · rw [if_pos z]
            rcases scn_arg (ab := ab) (D := D) k (6 * cd + lo) s with g | g
            · refine Or.inl (Nat.lt_of_lt_of_le g ?_)
              rw [Nat.pow_succ, Nat.mul_comm (6 ^ k), ← Nat.mul_assoc]
              exact Nat.mul_le_mul_right _ (by omega)
            · exact Or.inr g
          · rw [if_neg z]; exact Or.inr rfl
    exact key 6 0 s (by omega)
theorem st_deal (hR : Rel c rot Mm Lm Mx Lx) (p : Int32) : StepP E8_deal E7_deal [.int p] c rot Mm Lm Mx Lx := by
  obtain ⟨n, ns, np, hT, hL, -⟩ := id hR
  obtain ⟨⟨n6, -, p5⟩, ⟨hn, hn'⟩, -, ⟨hp, hp'⟩, -, t3, -, -, -, -, -, tw⟩ := id hT
  obtain ⟨v0, v1, -⟩ := vec_all hL.1
  obtain ⟨⟨a, a1, a2⟩, -⟩ := id hL.2.1
  have a2 : Mm 13 0 = nI a := by simpa using a2
  have hpw := pow_le6 n6
  have a64 : a < 64 := by omega
  have hx9 : Mx 9 0 = nI a := v0.trans a2
  have hout : ∀ h, n ≤ h → a.testBit h = false := fun h hh => Nat.testBit_lt_two_pow (Nat.lt_of_lt_of_le a1 (Nat.pow_le_pow_right (by decide) hh))
  obtain ⟨P, P108, P1, P2, -, -⟩ := pt_of hT hL
  have pat := part_at hT hL
  obtain ⟨wo, wb, w1, w2⟩ : ∃ wo : Nat → Nat, (∀ q, wo q ≤ 99) ∧ (∀ q, q < np → Mm 11 q = nI (wo q)) ∧ ∀ q, q < np → Mx 8 q = nI (wo q) := by
    refine ⟨fun q => if hq : q < np then Classical.choose (tw q hq) else 0, fun q => ?_, fun q hq => ?_, fun q hq => ?_⟩
    · dsimp only
      by_cases y : q < np
      · have := Classical.choose_spec (tw q y); rw [dif_pos y]; exact this.2.1
      · rw [dif_neg y]; omega
    · have := Classical.choose_spec (tw q hq); dsimp only; rw [dif_pos hq]; exact this.2.2.1
    · have := Classical.choose_spec (tw q hq); dsimp only; rw [dif_pos hq]; exact this.2.2.2
  have ex : ∀ h, h < 6 → ∃ x, x ≤ 18 ∧ fPart (Mm 13 0) (Mm 13 1) (Mm 3) h = nI x ∧ fPart (Mx 9 0) (Mx 9 1) (Mx 2) h = nI x ∧ (a.testBit h = false → x = 0) := fun h hh => by
    have fa := fAb_nI a a64 h hh
    by_cases y : h < n
    · rw [pat h y]
      obtain ⟨x, x1, x9, x2, -⟩ := t3 h y
      unfold fPart
      rw [a2]
      cases et : a.testBit h with
      | false =>
        rw [et] at fa
        have fa : fAb (nI a) (nI h) = 0 := fa
        exact ⟨0, by omega, by rw [if_pos fa]; rfl, by rw [if_pos fa]; rfl, fun _ => rfl⟩
      | true =>
        rw [et] at fa
        have fa : ¬ fAb (nI a) (nI h) = 0 := by rw [fa]; decide
        rw [if_neg fa]
        by_cases z : Mm 13 1 = nI h
        · rw [if_pos z, x2]
          exact ⟨2 * x, by omega, by rw [show (2 : Int32) = nI 2 from rfl, pk_mul], by rw [show (2 : Int32) = nI 2 from rfl, pk_mul], fun q => absurd q (by decide)⟩
        · rw [if_neg z, x2]
          exact ⟨x, by omega, rfl, rfl, fun q => absurd q (by decide)⟩
    · have et := hout h (by omega)
      rw [et] at fa
      have fa : fAb (nI a) (nI h) = 0 := fa
      unfold fPart
      rw [hx9, a2, if_pos fa]
      exact ⟨0, by omega, rfl, by rw [if_pos fa]; rfl, fun _ => rfl⟩
  obtain ⟨pa, pb, q1, q2, pz⟩ : ∃ pa : Nat → Nat, (∀ h, pa h ≤ 18) ∧ (∀ h, h < 6 → fPart (Mm 13 0) (Mm 13 1) (Mm 3) h = nI (pa h)) ∧ (∀ h, h < 6 → fPart (Mx 9 0) (Mx 9 1) (Mx 2) h = nI (pa h)) ∧ ∀ h, h < 6 → a.testBit h = false → pa h = 0 := by
    refine ⟨fun q => if hq : q < 6 then Classical.choose (ex q hq) else 0, fun q => ?_, fun q hq => ?_, fun q hq => ?_, fun q hq => ?_⟩
    · dsimp only
      by_cases y : q < 6
      · have := Classical.choose_spec (ex q y); rw [dif_pos y]; exact this.1
      · rw [dif_neg y]; omega
    · have := Classical.choose_spec (ex q hq); dsimp only; rw [dif_pos hq]; exact this.2.1
    · have := Classical.choose_spec (ex q hq); dsimp only; rw [dif_pos hq]; exact this.2.2.1
    · have := Classical.choose_spec (ex q hq); dsimp only; rw [dif_pos hq]; exact this.2.2.2
  have hD := dD_lt (wo := wo) (pa := pa) p5 wb pb P108
  obtain ⟨s, hs⟩ : ∃ s, scn a.testBit (dD wo pa P (alN wo np) np) np 0 (MX, 0) = s := ⟨_, rfl⟩
  have hs' : fld (linF a.testBit (dD wo pa P (alN wo np) np) np) 0 (6 ^ np) (MX, 0) = s := by
    have := lin_scn a.testBit (dD wo pa P (alN wo np) np) np np 0 0 (MX, 0) (Nat.zero_add np)
    rw [Nat.zero_mul, hs] at this
    exact this
  have sM : ¬ a = 0 → s.1 < MX := fun az => by
    obtain ⟨h0, h6, hab⟩ : ∃ h0, h0 < 6 ∧ a.testBit h0 = true := by
      refine Classical.byContradiction fun no => az ?_
      have : ∀ a, a < 64 → (∀ h, h < 6 → a.testBit h = false) → a = 0 := by decide +kernel
      exact this a a64 (fun h hh => by cases e : a.testBit h with | false => rfl | true => exact absurd ⟨h, hh, e⟩ no)
    have := scn_hit (B := 2 ^ 30) h6 hab (fun i => Nat.le_of_lt (hD i)) np 0 (MX, 0)
    rw [hs] at this
    unfold MX; omega
  have s2 : s.2 < 2 ^ 31 := by
    have := scn_arg (ab := a.testBit) (D := dD wo pa P (alN wo np) np) np 0 (MX, 0)
    have c6 := six_le p5
    rw [hs, Nat.zero_add, Nat.one_mul] at this
    rcases this with h | h
    · omega
    · rw [h]; decide
  have dp : ∃ d, 30 = d + np + 5 := ⟨25 - np, by omega⟩
  obtain ⟨d, hd⟩ := dp
  have cx := fun Q h1 h2 h3 h4 => cx_deal (d := d) (rot := rot) (p := p) (wo := wo) (pa := pa) (M := Mx) (L := Lx) (Q := Q) hp' p5 hx9 a64 w2 wb q2 pb P2 P108 hs sM h1 h2 h3 h4
  rw [← hd] at cx
  by_cases bad : p < -1 ∨ nI np ≤ p
  · refine (step_read hR (.int (-1)) (fun Q hQ => cm_deal (s := s) hn n6 hp p5 a2 a64 hout w1 wb q1 pb pz P1 P108 hD hs' sM s2 (fun _ => hQ) (fun y => absurd bad y) (fun _ e => ?_) (fun _ j hj e => ?_)) (fun Q hQ => cx Q (fun _ => hQ) (fun y => absurd bad y) (fun _ e => ?_) (fun _ j hj e => ?_))).toP
    all_goals exfalso
    · subst e; exact bad.elim (by decide) (fun z => absurd (Int32.le_trans (nI_pos' (n := np) (by omega)) z) (by decide))
    · subst e; exact bad.elim (fun z => nI_pos (n := j) (by omega) (Int32.lt_trans z (by decide))) (fun z => nI_ge hj (by omega) z)
    · subst e; exact bad.elim (by decide) (fun z => absurd (Int32.le_trans (nI_pos' (n := np) (by omega)) z) (by decide))
    · subst e; exact bad.elim (fun z => nI_pos (n := j) (by omega) (Int32.lt_trans z (by decide))) (fun z => nI_ge hj (by omega) z)
  by_cases az : a = 0
  · exact (step_read hR (.int (-9)) (fun Q hQ => cm_deal (s := s) hn n6 hp p5 a2 a64 hout w1 wb q1 pb pz P1 P108 hD hs' sM s2 (fun y => absurd y bad) (fun _ _ => hQ) (fun y => absurd az y) (fun y => absurd az y)) (fun Q hQ => cx Q (fun y => absurd y bad) (fun _ _ => hQ) (fun y => absurd az y) (fun y => absurd az y))).toP
  by_cases e1 : p = -1
  · refine step_junk hR (.int (nI s.1)) (fun Q hQ => cm_deal (s := s) hn n6 hp p5 a2 a64 hout w1 wb q1 pb pz P1 P108 hD hs' sM s2 (fun y => absurd y bad) (fun _ y => absurd y az) (fun _ _ f => hQ _ (mj_16 Mm f)) (fun _ j hj e => ?_)) (fun Q hQ => cx Q (fun y => absurd y bad) (fun _ y => absurd y az) (fun _ _ M' h' => hQ M' h') (fun _ j hj e => ?_))
    all_goals exact absurd (show nI j < 0 by rw [← e, e1]; decide) (nI_pos (by omega))
  obtain ⟨j, hj, rfl⟩ : ∃ j, j < np ∧ p = nI j := by
    rcases pk_ix p (n := np) (by omega) with q | q | ⟨x, hx, rfl⟩
    · exfalso
      apply e1
      have q1 : ¬ p < -1 := fun y => bad (Or.inl y)
      rw [Int32.lt_iff_toInt_lt] at q q1
      have z0 : (0 : Int32).toInt = 0 := by decide
      have z1 : (-1 : Int32).toInt = -1 := by decide
      exact Int32.toInt_inj.mp (by omega)
    · exact absurd (Or.inr q) bad
    · exact ⟨x, hx, rfl⟩
  refine step_junk hR (.int (nI (dgN np s.2 j))) (fun Q hQ => cm_deal (s := s) hn n6 hp p5 a2 a64 hout w1 wb q1 pb pz P1 P108 hD hs' sM s2 (fun y => absurd y bad) (fun _ y => absurd y az) (fun _ y => absurd y e1) (fun _ j' hj' e f => ?_)) (fun Q hQ => cx Q (fun y => absurd y bad) (fun _ y => absurd y az) (fun _ y => absurd y e1) (fun _ j' hj' e M' h' => ?_))
  · cases (nI_eq (by omega) (by omega)).mp e
    exact hQ _ (mj_16 Mm f)
  · cases (nI_eq (by omega) (by omega)).mp e
    exact hQ M' h'
end SD11
