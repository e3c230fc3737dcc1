/-! ===== deal: the model's call ===== -/
def MX : Nat := 2 ^ 31 - 1
def fdI (s : Nat × Nat) : Int32 := if s.1 = MX then -9 else nI s.2
def lsI (s : Nat × Nat) : Int32 := if s.1 = MX then 0 else nI s.1
theorem nI_ne9 {k : Nat} (h : k < 2 ^ 31) : ¬ nI k = -9 := fun e => by
  have h1 := nI_pos h
  rw [e] at h1
  exact h1 (by decide)
theorem six_le {np : Nat} (h : np ≤ 5) : 6 ^ np ≤ 7776 := Nat.pow_le_pow_right (n := 6) (by decide) h
/-- the owner of a piece, out of the code -/
theorem cm_dealE {d n0 p : Nat} {v2 v4 v6 : Option Value} {M : AM} {L : AL} {Q : QT} : ∀ i v, v < 2 ^ 31 → p + i < 2 ^ 30 → Q (some (.int (nI (dgN (p + i + 1) v p)))) Sm M L → AW E8_deal d 0 n0 Q 129 [some (.ref 0), some (.int (nI p)), v2, some (.int (nI v)), v4, some (.int (nI (p + i))), v6] [] Sm M L 0 := by
  intro i
  induction i with
  | zero =>
    intro v hv hp hq
    have em : nI v % 6 = nI (v % 6) := nI_mod (b := 6) (by omega) (by decide)
    rw [dgN, if_pos (by rfl), ← em] at hq
    refine aw_run ok8_deal (at1 129) 40 ?_
    refine ifT (c := nI (p + 0) ≤ nI p) (Int32.le_refl _) ?_
    exact hq
  | succ i ih =>
    intro v hv hp hq
    have ed : nI v / 6 = nI (v / 6) := pk_div (d := 6) hv (by decide) (by decide)
    rw [dgN, if_neg (by omega)] at hq
    have ih := ih (v / 6) (by omega) (by omega) hq
    rw [← ed, ← pk_m1 (p + i)] at ih
    refine aw_run ok8_deal (at1 129) 40 ?_
    refine ifF (c := nI (p + (i + 1)) ≤ nI p) (nI_ge (by omega) (by omega)) ?_
    exact ih
theorem cm_deal {d n np a P : Nat} {p : Int32} {wo pa : Nat → Nat} {M : AM} {L : AL} {Q : QT} (hn : M 2 0 = nI n) (n6 : n ≤ 6) (hp : M 10 0 = nI np) (p5 : np ≤ 5) (ha : M 13 0 = nI a) (a64 : a < 64) (hout : ∀ h, n ≤ h → a.testBit h = false)
    (hwo : ∀ p, p < np → M 11 p = nI (wo p)) (wb : ∀ p, wo p ≤ 99) (hpa : ∀ h, h < 6 → fPart (M 13 0) (M 13 1) (M 3) h = nI (pa h)) (pb : ∀ h, pa h ≤ 18) (pz : ∀ h, h < 6 → a.testBit h = false → pa h = 0) (hP : sumTo (fPart (M 13 0) (M 13 1) (M 3)) n = nI P) (P108 : P ≤ 108)
    (hD : ∀ i, dD wo pa P (alN wo np) np i < 2 ^ 30) {s : Nat × Nat} (hs : fld (linF a.testBit (dD wo pa P (alN wo np) np) np) 0 (6 ^ np) (MX, 0) = s) (sM : ¬ a = 0 → s.1 < MX) (s2 : s.2 < 2 ^ 31)
    (h1 : (p < -1 ∨ nI np ≤ p) → Q (some (.int (-1))) Sm M L) (h2 : ¬ (p < -1 ∨ nI np ≤ p) → a = 0 → Q (some (.int (-9))) Sm M L)
    (h3 : ¬ a = 0 → p = -1 → ∀ f, Q (some (.int (nI s.1))) Sm (sr M 16 f) L) (h4 : ¬ a = 0 → ∀ j, j < np → p = nI j → ∀ f, Q (some (.int (nI (dgN np s.2 j)))) Sm (sr M 16 f) L) : CW E8_deal (d + 5) 0 [.ref 0, .int p] Sm M L Q := by
  have c6 := six_le p5
  have fin0 : fIn p (-1) (nI np - 1) = 0 ↔ (p < -1 ∨ nI np ≤ p) := by
    unfold fIn
    by_cases q1 : p < -1
    · rw [if_pos q1]; exact ⟨fun _ => Or.inl q1, fun _ => rfl⟩
    · rw [if_neg q1]
      have : nI np - 1 < p ↔ nI np ≤ p := by
        have t1 : (nI np - 1).toInt = (np : Int) - 1 := pk_sub_toInt (b := 1) (by omega) (by decide)
        rw [Int32.lt_iff_toInt_lt, Int32.le_iff_toInt_le, t1, nI_toInt (by omega)]
        omega
      by_cases q2 : nI np - 1 < p
      · rw [if_pos q2]; exact ⟨fun _ => Or.inr (this.mp q2), fun _ => rfl⟩
      · rw [if_neg q2]; exact ⟨fun e => absurd e (by decide), fun e => e.elim (fun y => absurd y q1) (fun y => absurd (this.mpr y) q2)⟩
  have lst : ¬ a = 0 → ¬ (p < -1 ∨ nI np ≤ p) → ∀ f v2 v5 v6, AW E8_deal (d + 5) 0 Sm.length Q 111 [some (.ref 0), some (.int p), v2, some (.int (nI s.2)), some (.int (nI s.1)), v5, v6] [] Sm (sr M 16 f) L 0 := by
    intro az bad f v2 v5 v6
    refine aw_run ok8_deal (at1 129) 40 ?_
    refine iteI (fun (e : p = -1) => ?_) (fun (e : ¬ p = -1) => ?_)
    · exact h3 az e f
    · refine inBI 0 rfl (by decide) ?_
      obtain ⟨j, hj, rfl⟩ : ∃ j, j < np ∧ p = nI j := by
        rcases pk_ix p (n := np) (by omega) with q | q | ⟨x, hx, rfl⟩
        · exfalso
          apply e
          have q1 : ¬ p < -1 := fun y => bad (Or.inl y)
          rw [Int32.lt_iff_toInt_lt] at q q1
          have z0 : (0 : Int32).toInt = 0 := by decide
          have z1 : (-1 : Int32).toInt = -1 := by decide
          exact Int32.toInt_inj.mp (by omega)
        · exact absurd (Or.inr q) bad
        · exact ⟨x, hx, rfl⟩
      have k0 := cm_dealE (d := d + 5) (n0 := Sm.length) (p := j) (v2 := v2) (v4 := some (.int (nI s.1))) (v6 := v6) (M := sr M 16 f) (L := L) (Q := Q) (np - 1 - j) s.2 s2 (by omega) (by rw [show j + (np - 1 - j) + 1 = np by omega]; exact h4 az j hj rfl f)
      rw [show j + (np - 1 - j) = np - 1 by omega, ← pk_sub (b := 1) (show 1 ≤ np by omega), ← hp] at k0
      exact k0
  have srch : ¬ a = 0 → ¬ (p < -1 ∨ nI np ≤ p) → ∀ k, k ≤ 6 ^ np → ∀ (t : Nat × Nat) f v6, t.1 ≤ MX → t.2 < 2 ^ 31 → fld (linF a.testBit (dD wo pa P (alN wo np) np) np) (6 ^ np - k) k t = s → AW E8_deal (d + 5) 0 Sm.length Q 64 [some (.ref 0), some (.int p), some (.int (nI (6 ^ np))), some (.int (fdI t)), some (.int (lsI t)), some (.int (nI (6 ^ np - k))), v6] [] Sm (sr M 16 f) L 0 := by
    intro az bad k
    induction k with
    | zero =>
      intro _ t f v6 t1 t2 ht
      have ht : t = s := ht
      subst ht
      have := sM az
      have k0 := lst az bad f (some (.int (nI (6 ^ np)))) (some (.int (nI (6 ^ np)))) v6
      have e1 : fdI t = nI t.2 := if_neg (by omega)
      have e2 : lsI t = nI t.1 := if_neg (by omega)
      rw [Nat.sub_zero, e1, e2]
      refine aw_run ok8_deal (at2 64 111) 40 ?_
      refine ifT (c := nI (6 ^ np) ≤ nI (6 ^ np)) (Int32.le_refl _) ?_
      exact k0
    | succ k ih =>
      intro hk t f v6 t1 t2 ht
      rw [fld] at ht
      obtain ⟨i, hi⟩ : ∃ i, 6 ^ np - (k + 1) = i := ⟨_, rfl⟩
      rw [hi] at ht ⊢
      rw [show 6 ^ np - k = i + 1 by omega, nI_succ] at ih
      have dl := hD i
      have up : (linF a.testBit (dD wo pa P (alN wo np) np) np i t).1 ≤ MX ∧ (linF a.testBit (dD wo pa P (alN wo np) np) np i t).2 < 2 ^ 31 := by
        unfold linF
        by_cases o : okN a.testBit np i = true
        · rw [if_pos o]
          refine ⟨Nat.le_trans (upS_le _ _ _) t1, ?_⟩
          unfold upS
          by_cases y : dD wo pa P (alN wo np) np i < t.1
          · rw [if_pos y]; show i < 2 ^ 31; omega
          · rw [if_neg y]; exact t2
        · rw [if_neg o]; exact ⟨t1, t2⟩
      have ih := fun f v6 => ih (by omega) _ f v6 up.1 up.2 ht
      refine aw_run ok8_deal (at1 64) 60 ?_
      refine ifF (c := nI (6 ^ np) ≤ nI i) (nI_ge (by omega) (by omega)) ?_
      have e13 : sr M 16 f 13 = M 13 := sr_ne _ _ (by decide)
      have e3 : sr M 16 f 3 = M 3 := sr_ne _ _ (by decide)
      have e2 : sr M 16 f 2 = M 2 := sr_ne _ _ (by decide)
      have e10 : sr M 16 f 10 = M 10 := sr_ne _ _ (by decide)
      have e11 : sr M 16 f 11 = M 11 := sr_ne _ _ (by decide)
      refine cm_farBy (M := sr M 16 f) (wo := wo) (pa := pa) (by rw [e2]; exact hn) n6 (by rw [e10]; exact hp) p5 (by rw [e13]; exact ha) a64 hout (by rw [e11]; exact hwo) wb (by rw [e13, e3]; exact hpa) pb pz (by rw [e13, e3]; exact hP) P108 (by omega) ?_
      intro g
      have eg : sr (sr M 16 f) 16 g = sr M 16 g := by
        funext l
        by_cases hl : l = 16
        · subst hl; rw [sr_at, sr_at]
        · rw [sr_ne _ _ hl, sr_ne _ _ hl, sr_ne _ _ hl]
      rw [eg]
      have ih := ih g
      unfold linF at ih
      by_cases o : okN a.testBit np i = true
      · rw [if_pos o] at ih ⊢
        refine ifF (c := nI (dD wo pa P (alN wo np) np i) = -9) (nI_ne9 (by omega)) ?_
        by_cases y : t.1 = MX
        · have u : upS (dD wo pa P (alN wo np) np) i t = (dD wo pa P (alN wo np) np i, i) := if_pos (by rw [y]; unfold MX; omega)
          rw [u] at ih
          have q1 : fdI (dD wo pa P (alN wo np) np i, i) = nI i := if_neg (by show ¬ dD wo pa P (alN wo np) np i = MX; unfold MX; omega)
          have q2 : lsI (dD wo pa P (alN wo np) np i, i) = nI (dD wo pa P (alN wo np) np i) := if_neg (by show ¬ dD wo pa P (alN wo np) np i = MX; unfold MX; omega)
          rw [q1, q2] at ih
          refine ifT (c := fdI t = -9) (if_pos y) ?_
          exact ih _
        · have r1 : fdI t = nI t.2 := if_neg y
          have r2 : lsI t = nI t.1 := if_neg y
          refine ifF (c := fdI t = -9) (by rw [r1]; exact nI_ne9 t2) ?_
          have t31 : t.1 < 2 ^ 31 := by unfold MX at t1; omega
          by_cases x : dD wo pa P (alN wo np) np i < t.1
          · have u : upS (dD wo pa P (alN wo np) np) i t = (dD wo pa P (alN wo np) np i, i) := if_pos x
            rw [u] at ih
            have q1 : fdI (dD wo pa P (alN wo np) np i, i) = nI i := if_neg (by show ¬ dD wo pa P (alN wo np) np i = MX; unfold MX; omega)
            have q2 : lsI (dD wo pa P (alN wo np) np i, i) = nI (dD wo pa P (alN wo np) np i) := if_neg (by show ¬ dD wo pa P (alN wo np) np i = MX; unfold MX; omega)
            rw [q1, q2] at ih
            refine ifF (c := lsI t ≤ nI (dD wo pa P (alN wo np) np i)) (by rw [r2]; exact nI_ge x t31) ?_
            exact ih _
          · have u : upS (dD wo pa P (alN wo np) np) i t = t := if_neg x
            rw [u] at ih
            refine ifT (c := lsI t ≤ nI (dD wo pa P (alN wo np) np i)) (by rw [r2]; exact nI_le (by omega) (by omega)) ?_
            exact ih _
      · rw [if_neg o] at ih ⊢
        exact ih _
  refine cw_ent ok8_deal (at1 34) 60 ?_
  refine inBI 0 rfl (by decide) ?_
  refine cm_in ?_
  refine iteI (fun (z : fIn p (-1) (M 10 0 - 1) = 0) => ?_) (fun (z : ¬ fIn p (-1) (M 10 0 - 1) = 0) => ?_)
  · rw [hp] at z; exact h1 (fin0.mp z)
  · rw [hp] at z
    have bad : ¬ (p < -1 ∨ nI np ≤ p) := fun y => z (fin0.mpr y)
    refine inBI 0 rfl (by decide) ?_
    refine iteI (fun (y : M 13 0 = 0) => ?_) (fun (y : ¬ M 13 0 = 0) => ?_)
    · rw [ha] at y
      exact h2 bad ((nI_eq (b := 0) (by omega) (by decide)).mp y)
    · have az : ¬ a = 0 := fun e => y (by rw [ha, e]; rfl)
      refine aw_loop np (fun i => [some (.ref 0), some (.int p), some (.int (nI (6 ^ i))), some (.int (nI i)), none, none, none]) (fun _ => M) ?_ ?_
      · refine aw_run ok8_deal (at1 64) 60 ?_
        refine inBI 0 rfl (by decide) ?_
        refine ifT (c := M 10 0 ≤ nI np) (by rw [hp]; exact Int32.le_refl _) ?_
        have k0 := srch az bad (6 ^ np) (Nat.le_refl _) (MX, 0) (M 16) none (Nat.le_refl _) (by decide) (by rw [Nat.sub_self]; exact hs)
        rw [sr_self, Nat.sub_self] at k0
        exact k0
      · intro i hi ih
        rw [nI_succ, Nat.pow_succ, ← pk_mul] at ih
        refine aw_run ok8_deal (at1 34) 60 ?_
        refine inBI 0 rfl (by decide) ?_
        refine ifF (c := M 10 0 ≤ nI i) (by rw [hp]; exact nI_ge hi (by omega)) ?_
        exact ih
