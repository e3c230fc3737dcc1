/-! ===== deal: the class ===== -/
theorem s_add (x y w : Nat) : nI x - nI y + nI w = nI (x + w) - nI y := by
  rw [← nI_add, Int32.sub_eq_add_neg, Int32.sub_eq_add_neg, Int32.add_assoc, Int32.add_comm (-nI y), ← Int32.add_assoc]
theorem s_sub (x y w : Nat) : nI (x + w) - nI y - nI w = nI x - nI y := by
  rw [← s_add, Int32.add_sub_cancel]
theorem s_le {F x y : Nat} (hF : F < 2 ^ 31) (hx : x < 2 ^ 30) (hy : y < 2 ^ 30) : nI F ≤ nI x - nI y ↔ F + y ≤ x := by
  rw [Int32.le_iff_toInt_le, pk_sub_toInt hx hy, nI_toInt hF]
  omega
def DGm (M0 M : AM) (wo pa : Nat → Nat) (P al np m cd : Nat) (s : Nat × Nat) : Prop := (∀ l, l < 22 ∨ 25 < l → M l = M0 l) ∧ M 22 4 = nI P ∧ M 22 1 = nI s.1 ∧ (∀ p, p < m → M 24 p = nI (dgN m cd p)) ∧ (∀ h, h < 6 → M 25 h = nI (gvN wo m cd h * P) - nI (pa h * al)) ∧ (s.1 < MX → ∀ p, p < np → M 23 p = nI (dgN np s.2 p))
section DL2
variable {M0 : AM} {wo pa : Nat → Nat} {P al np : Nat}
theorem DGm.push {M : AM} {m cd i : Nat} {s : Nat × Nat} (h : DGm M0 M wo pa P al np m cd s) (hi : i < 6) : DGm M0 (um (um M 25 i (M 25 i + nI (wo m * P))) 24 m (nI i)) wo pa P al np (m + 1) (6 * cd + i) s := by
  obtain ⟨h1, h2, h3, h4, h5, h6⟩ := h
  refine ⟨fun l hl => ?_, ?_, ?_, fun p hp => ?_, fun j hj => ?_, fun hs p hp => ?_⟩
  · rw [um_ne _ _ _ (by omega), um_ne _ _ _ (by omega)]; exact h1 l hl
  · rw [um_ne _ _ _ (by decide), um_ne _ _ _ (by decide)]; exact h2
  · rw [um_ne _ _ _ (by decide), um_ne _ _ _ (by decide)]; exact h3
  · rw [dgN_snoc hi]
    by_cases e : p = m
    · rw [e, um_same, if_pos rfl]
    · rw [um_oth _ _ _ e, um_ne _ _ _ (by decide), if_neg e]; exact h4 p (by omega)
  · rw [um_ne _ _ _ (by decide), gvN_snoc wo hi]
    by_cases e : j = i
    · rw [e, um_same, if_pos rfl, h5 i hi, s_add, Nat.add_mul]
    · rw [um_oth _ _ _ e, if_neg e, Nat.add_zero]; exact h5 j hj
  · rw [um_ne _ _ _ (by decide), um_ne _ _ _ (by decide)]; exact h6 hs p hp
theorem DGm.pop {M : AM} {m cd i : Nat} {s : Nat × Nat} (h : DGm M0 M wo pa P al np (m + 1) (6 * cd + i) s) (hi : i < 6) : DGm M0 (um M 25 i (M 25 i - nI (wo m * P))) wo pa P al np m cd s := by
  obtain ⟨h1, h2, h3, h4, h5, h6⟩ := h
  refine ⟨fun l hl => ?_, ?_, ?_, fun p hp => ?_, fun j hj => ?_, fun hs p hp => ?_⟩
  · rw [um_ne _ _ _ (by omega)]; exact h1 l hl
  · rw [um_ne _ _ _ (by decide)]; exact h2
  · rw [um_ne _ _ _ (by decide)]; exact h3
  · rw [um_ne _ _ _ (by decide), h4 p (by omega), dgN_snoc hi, if_neg (by omega)]
  · by_cases e : j = i
    · rw [e, um_same, h5 i hi, gvN_snoc wo hi, if_pos rfl, Nat.add_mul, s_sub]
    · rw [um_oth _ _ _ e, h5 j hj, gvN_snoc wo hi, if_neg e, Nat.add_zero]
  · rw [um_ne _ _ _ (by decide)]; exact h6 hs p hp
theorem abs_nI {x y : Nat} (hx : x < 2 ^ 30) (hy : y < 2 ^ 30) : (if 0 ≤ nI x - nI y then nI x - nI y else 0 - (nI x - nI y)) = nI (ad x y) := by
  by_cases z : 0 ≤ nI x - nI y
  · rw [if_pos z]; exact ad_pos hx hy z
  · rw [if_neg z, Int32.zero_sub]; exact ad_neg hx hy z
theorem max_nI {x y : Nat} (hx : x < 2 ^ 31) (hy : y < 2 ^ 31) : (if nI x < nI y then nI y else nI x) = nI (max x y) := by
  by_cases z : x < y
  · rw [if_pos (nI_lt z hy), Nat.max_eq_right (by omega)]
  · rw [if_neg (nI_nlt (by omega) hx), Nat.max_eq_left (by omega)]
theorem cx_weigh {d rot cd : Nat} {s : Nat × Nat} {M : AM} {L : AL} {Q : QT} (p5 : np ≤ 5) (hb : ∀ h, gvN wo np cd h * P < 2 ^ 29 ∧ pa h * al < 2 ^ 29) (s1 : s.1 ≤ MX) (h : DGm M0 M wo pa P al np np cd s) (hq : ∀ M', DGm M0 M' wo pa P al np np cd (upS (dD wo pa P al np) cd s) → Q none (Sx rot) M' L) : CW E0_weigh (d + 1) 0 [.ref 22, .int (nI np)] (Sx rot) M L Q := by
  obtain ⟨h1, h2, h3, h4, h5, h6⟩ := id h
  have dlt : ∀ i, dsN P al pa (gvN wo np cd) i < 2 ^ 30 := fun i => by
    have := dsN_le (P := P) (al := al) (pa := pa) (g := gvN wo np cd) (B := 2 ^ 30 - 1) i (fun h _ => by have := hb h; omega)
    omega
  have s31 : s.1 < 2 ^ 31 := by unfold MX at s1; omega
  obtain ⟨ds, d0, dS, d6, dlt⟩ : ∃ ds : Nat → Nat, ds 0 = 0 ∧ (∀ i, ds (i + 1) = max (ds i) (ad (gvN wo np cd i * P) (pa i * al))) ∧ dD wo pa P al np cd = ds 6 ∧ ∀ i, ds i < 2 ^ 30 := ⟨dsN P al pa (gvN wo np cd), rfl, fun _ => rfl, rfl, dlt⟩
  refine cw_ent ok0_weigh (at1 4) 60 ?_
  refine cast (congrArg (fun z => AW E0_weigh (d + 1) 0 (Sx rot).length Q 4 [some (.ref 22), some (.int (nI np)), some (.int (nI z)), some (.int (nI 0))] [] (Sx rot) M L 0) d0) ?_
  refine aw_loop 6 (fun i => [some (.ref 22), some (.int (nI np)), some (.int (nI (ds i))), some (.int (nI i))]) (fun _ => M) ?_ ?_
  · refine aw_run ok0_weigh (at1 45) 60 ?_
    by_cases y : ds 6 < s.1
    · refine ifF (c := M 22 1 ≤ nI (ds 6)) (by rw [h3]; exact nI_ge y s31) ?_
      have eu : upS (dD wo pa P al np) cd s = (ds 6, cd) := by unfold upS; rw [d6]; exact if_pos y
      rw [eu] at hq
      generalize hM1 : um M 22 1 (nI (ds 6)) = M1
      have lp : AW E0_weigh (d + 1) 0 (Sx rot).length Q 45 [some (.ref 22), some (.int (nI np)), some (.int (nI (ds 6))), some (.int (nI 0))] [] (Sx rot) (sr M1 23 (fun j => if j < 0 then M1 24 j else M1 23 j)) L 0 := by
        refine aw_loop np (fun i => [some (.ref 22), some (.int (nI np)), some (.int (nI (ds 6))), some (.int (nI i))]) (fun i => sr M1 23 (fun j => if j < i then M1 24 j else M1 23 j)) ?_ ?_
        · refine aw_run ok0_weigh (at1 45) 60 ?_
          refine ifT (c := nI np ≤ nI np) (Int32.le_refl _) ?_
          refine hq _ ⟨fun l hl => ?_, ?_, ?_, fun p hp => ?_, fun j hj => ?_, fun hs p hp => ?_⟩
          · rw [sr_ne _ _ (by omega), ← hM1, um_ne _ _ _ (by omega)]; exact h1 l hl
          · rw [sr_ne _ _ (by decide), ← hM1, um_oth _ _ _ (by decide)]; exact h2
          · rw [sr_ne _ _ (by decide), ← hM1, um_same]
          · rw [sr_ne _ _ (by decide), ← hM1, um_ne _ _ _ (by decide)]; exact h4 p hp
          · rw [sr_ne _ _ (by decide), ← hM1, um_ne _ _ _ (by decide)]; exact h5 j hj
          · rw [sr_at, if_pos hp, ← hM1, um_ne _ _ _ (by decide)]; exact h4 p hp
        · intro i hi ih
          rw [nI_succ] at ih
          refine aw_run ok0_weigh (at1 45) 60 ?_
          refine ifF (c := nI np ≤ nI i) (nI_ge hi (by omega)) ?_
          refine ifF (c := 5 ≤ nI i) (nI_ge (b := 5) (by omega) (by decide)) ?_
          refine inBI (n := 5) i rfl (by omega) ?_
          refine inBI (n := 5) i rfl (by omega) ?_
          refine cast (congrArg (fun z => AW E0_weigh (d + 1) 0 (Sx rot).length Q 45 [some (.ref 22), some (.int (nI np)), some (.int (nI (ds 6))), some (.int (nI i + 1))] [] (Sx rot) z L 0) ?_) ih
          show _ = um (sr M1 23 _) 23 i (M1 24 i)
          rw [um_sr]
          refine congrArg (sr M1 23) ?_
          funext j
          unfold upd
          by_cases e : j = i
          · subst e; simp
          · by_cases e2 : j < i
            · simp [e, e2, show j < i + 1 by omega]
            · simp [e, e2, show ¬ j < i + 1 by omega]
      rw [show sr M1 23 (fun j => if j < 0 then M1 24 j else M1 23 j) = M1 by rw [show (fun j => if j < 0 then M1 24 j else M1 23 j) = M1 23 from funext fun j => if_neg (Nat.not_lt_zero j)]; exact sr_self M1 23] at lp
      subst hM1
      exact lp
    · refine ifT (c := M 22 1 ≤ nI (ds 6)) (by rw [h3]; have := dlt 6; exact nI_le (by omega) (by omega)) ?_
      have eu : upS (dD wo pa P al np) cd s = s := by unfold upS; rw [d6]; exact if_neg y
      rw [eu] at hq
      exact hq M h
  · intro i hi ih
    obtain ⟨b1, b2⟩ := hb i
    have b3 : ad (gvN wo np cd i * P) (pa i * al) < 2 ^ 31 := by unfold ad; omega
    have b4 := dlt i
    rw [nI_succ, dS, ← max_nI (by omega) b3, ← abs_nI (by omega) (by omega), ← h5 i hi] at ih
    refine aw_run ok0_weigh (at1 4) 60 ?_
    refine ifF (nI_ge (b := 6) hi (by decide)) ?_
    refine inBI (n := 6) i rfl hi ?_
    exact ih
theorem cx_give {d rot a : Nat} {L : AL} (p5 : np ≤ 5) (a64 : a < 64) (hb : ∀ m cd h, m ≤ np → gvN wo m cd h * P < 2 ^ 29 ∧ pa h * al < 2 ^ 29) (hp : M0 1 2 = nI np) (ha : M0 9 0 = nI a) (hw : ∀ p, p < np → M0 8 p = nI (wo p)) : ∀ k m cd s (M : AM) (Q : QT), m + k = np → s.1 ≤ MX → DGm M0 M wo pa P al np m cd s → (∀ M', DGm M0 M' wo pa P al np m cd (scn a.testBit (dD wo pa P al np) k cd s) → Q none (Sx rot) M' L) → CW E0_give (d + k + 3) 0 [.ref 22, .ref 1, .ref 9, .int (nI m)] (Sx rot) M L Q := by
  intro k
  induction k with
  | zero =>
    intro m cd s M Q e s1 h hq
    have e : m = np := e
    subst e
    refine cw_ent ok0_give (at1 42) 60 ?_
    refine ifF (c := nI m < 0) (nI_pos (by omega)) ?_
    have hp' : M 1 2 = nI m := by rw [h.1 1 (by omega)]; exact hp
    refine ifT (c := M 1 2 ≤ nI m) (by rw [hp']; exact Int32.le_refl _) ?_
    have := cx_weigh (d := d + 1) (rot := rot) (L := L) (Q := fun r S M L => match r with | none => Q none S M L | some _ => False) p5 (fun h => hb m cd h (Nat.le_refl m)) s1 h (fun M' h' => hq M' h')
    rw [← hp'] at this
    refine cw_mono this ?_
    intro r S' M' L' hr
    cases r with
    | none => exact hr
    | some v => exact hr.elim
  | succ k ih =>
    intro m cd s M Q e s1 h hq
    have mn : m < np := by omega
    have key : ∀ j, j ≤ 6 → ∀ (t : Nat × Nat) (M : AM), t.1 ≤ MX → DGm M0 M wo pa P al np m cd t → (∀ M', DGm M0 M' wo pa P al np m cd (fld (fun h s => if a.testBit h then scn a.testBit (dD wo pa P al np) k (6 * cd + h) s else s) (6 - j) j t) → Q none (Sx rot) M' L) → AW E0_give (d + (k + 1) + 3) 0 (Sx rot).length Q 42 [some (.ref 22), some (.ref 1), some (.ref 9), some (.int (nI m)), some (.int (nI (wo m * P))), some (.int (nI (6 - j)))] [] (Sx rot) M L 0 := by
      intro j
      induction j with
      | zero =>
        intro _ t M t1 ht hq
        refine aw_run ok0_give (at1 42) 60 ?_
        exact hq M ht
      | succ j jh =>
        intro hj t M t1 ht hq
        obtain ⟨i, hi⟩ : ∃ i, 6 - (j + 1) = i := ⟨_, rfl⟩
        have i6 : i < 6 := by omega
        rw [hi] at hq ⊢
        rw [show 6 - j = i + 1 by omega, nI_succ] at jh
        have jh := jh (by omega)
        obtain ⟨h1, h2, h3, h4, h5, h6⟩ := id ht
        have t31 : t.1 < 2 ^ 31 := by unfold MX at t1; omega
        refine aw_run ok0_give (at1 42) 60 ?_
        refine ifF (nI_ge (b := 6) i6 (by decide)) ?_
        refine cx_has i6 ?_
        have fa := fAb_nI a a64 i i6
        have m9 : M 9 0 = nI a := by rw [h1 9 (by omega)]; exact ha
        cases et : a.testBit i with
        | false =>
          rw [et] at fa
          refine ifT (c := fAb (M 9 0) (nI i) = 0) (by rw [m9]; exact fa) ?_
          refine jh t M t1 ht (fun M' h' => hq M' ?_)
          rw [fld, if_neg (by rw [et]; decide)]
          exact h'
        | true =>
          rw [et] at fa
          refine ifF (c := fAb (M 9 0) (nI i) = 0) (by rw [m9, fa]; decide) ?_
          refine inBI (n := 6) i rfl i6 ?_
          have bb := hb (m + 1) (6 * cd + i) i (by omega)
          have gs : gvN wo (m + 1) (6 * cd + i) i * P = gvN wo m cd i * P + wo m * P := by rw [gvN_snoc wo i6, if_pos rfl, Nat.add_mul]
          have le : M 22 1 ≤ M 25 i + nI (wo m * P) ↔ t.1 + pa i * al ≤ gvN wo (m + 1) (6 * cd + i) i * P := by
            rw [h3, h5 i i6, s_add, ← gs]
            exact s_le t31 (by omega) (by omega)
          refine iteI (fun (y : M 22 1 ≤ M 25 i + nI (wo m * P)) => ?_) (fun (y : ¬ M 22 1 ≤ M 25 i + nI (wo m * P)) => ?_)
          · refine jh t M t1 ht (fun M' h' => hq M' ?_)
            rw [fld, if_pos et, scn_stay i6 k (m + 1) (6 * cd + i) t (by omega) (le.mp y)]
            exact h'
          · refine inBI (n := 6) i rfl i6 ?_
            refine inBI (n := 6) i rfl i6 ?_
            refine inBI (n := 5) m rfl (by omega) ?_
            have ih := fun M Q => ih (m + 1) (6 * cd + i) t M Q (by omega) t1
            rw [nI_succ m] at ih
            refine ih _ _ (ht.push i6) ?_
            intro M' h'
            refine inBI (n := 6) i rfl i6 ?_
            refine inBI (n := 6) i rfl i6 ?_
            refine jh _ _ (Nat.le_trans (scn_le _ k _ _) t1) (h'.pop i6) (fun M'' h'' => hq M'' ?_)
            rw [fld, if_pos et]
            exact h''
    refine cw_ent ok0_give (at1 42) 60 ?_
    refine ifF (c := nI m < 0) (nI_pos (by omega)) ?_
    have hp' : M 1 2 = nI np := by rw [h.1 1 (by omega)]; exact hp
    refine ifF (c := M 1 2 ≤ nI m) (by rw [hp']; exact nI_ge mn (by omega)) ?_
    refine ifT (c := nI m < 5) (nI_lt (b := 5) (by omega) (by decide)) ?_
    refine inBI (n := 5) m rfl (by omega) ?_
    have k0 := key 6 (Nat.le_refl _) s M s1 h hq
    rw [← pk_mul, ← hw m mn, ← h.2.1, ← h.1 8 (by omega)] at k0
    exact k0
end DL2
