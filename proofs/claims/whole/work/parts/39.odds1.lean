/-! ===== odds: powers, the common divisor ===== -/
theorem nI_mod {a b : Nat} (ha : a < 2 ^ 31) (hb : b < 2 ^ 31) : nI a % nI b = nI (a % b) := by
  have hm : a % b ≤ a := Nat.mod_le a b
  rw [← Int32.toInt_inj, Int32.toInt_mod, nI_toInt (by omega), nI_toInt (by omega), nI_toInt (by omega)]
  exact (Int.ofNat_tmod a b).symm
theorem cx_power {d x k : Nat} (hk : k < 100) {S : AS} {M : AM} {L : AL} {Q : QT} (hq : Q (some (.int (nI (x ^ k)))) S M L) : CW E7_power d 0 [.int (nI x), .int (nI k)] S M L Q := by
  refine cw_ent ok7_power (at1 4) 40 ?_
  refine aw_loop k (fun i => [some (.int (nI x)), some (.int (nI k)), some (.int (nI (x ^ i))), some (.int (nI i))]) (fun _ => M) ?_ ?_
  · refine aw_run ok7_power (at1 4) 40 ?_
    exact ifT (c := nI k ≤ nI k) (Int32.le_refl _) hq
  · intro i hi ih
    rw [nI_succ, Nat.pow_succ, ← pk_mul] at ih
    refine aw_run ok7_power (at1 4) 40 ?_
    exact ifF (c := nI k ≤ nI i) (nI_ge hi (by omega)) ih
/-- so many steps are enough -/
def euN : Nat → Nat → Nat → Bool
  | 0, _, l => decide (l = 0)
  | f + 1, g, l => decide (l = 0) || euN f l (g % l)
theorem euN_two : ∀ k g l, l < 2 ^ k → euN (2 * k) g l = true
  | 0, g, l, h => by
    have : l = 0 := by omega
    exact decide_eq_true this
  | k + 1, g, l, h => by
    rw [show 2 * (k + 1) = 2 * k + 1 + 1 by omega, euN]
    by_cases z : l = 0
    · rw [decide_eq_true z, Bool.true_or]
    rw [decide_eq_false z, Bool.false_or, euN]
    by_cases z2 : g % l = 0
    · rw [decide_eq_true z2, Bool.true_or]
    rw [decide_eq_false z2, Bool.false_or]
    have h1 := Nat.mod_lt g (Nat.pos_of_ne_zero z)
    have h2 := Nat.mod_lt l (Nat.pos_of_ne_zero z2)
    have h3 := Nat.div_add_mod l (g % l)
    have h4 : 1 ≤ l / (g % l) := Nat.div_pos (by omega) (by omega)
    have h5 : g % l * 1 ≤ g % l * (l / (g % l)) := Nat.mul_le_mul_left _ h4
    rw [Nat.mul_one] at h5
    refine euN_two k _ _ ?_
    rw [Nat.pow_succ] at h
    omega
theorem cx_gcd {d a b : Nat} (ha : a < 2 ^ 30) (hb : b < 2 ^ 30) {S : AS} {M : AM} {L : AL} {Q : QT} (hq : Q (some (.int (nI (Nat.gcd a b)))) S M L) : CW E7_commonDivisor d 0 [.int (nI a), .int (nI b)] S M L Q := by
  have key : ∀ f g l i v, i + f = 64 → g < 2 ^ 30 → l < 2 ^ 30 → euN f g l = true → Nat.gcd l g = Nat.gcd a b → AW E7_commonDivisor d 0 S.length Q 7 [some (.int (nI a)), some (.int (nI b)), some (.int (nI g)), some (.int (nI l)), some (.int (nI i)), v] [] S M L 0 := by
    intro f
    induction f with
    | zero =>
      intro g l i v hi hg hl he hgcd
      have hl0 : l = 0 := of_decide_eq_true he
      have hi0 : i = 64 := by omega
      subst hl0
      subst hi0
      rw [Nat.gcd_zero_left] at hgcd
      rw [← hgcd] at hq
      refine aw_run ok7_commonDivisor (at1 7) 40 ?_
      exact hq
    | succ f ih =>
      intro g l i v hi hg hl he hgcd
      refine aw_run ok7_commonDivisor (at1 7) 40 ?_
      refine ifF (c := (64 : Int32) ≤ nI i) (nI_ge (a := i) (b := 64) (by omega) (by decide)) ?_
      by_cases z : l = 0
      · subst z
        rw [Nat.gcd_zero_left] at hgcd
        rw [← hgcd] at hq
        exact hq
      · have nz : ¬ nI l = 0 := fun y => z ((nI_eq (b := 0) (by omega) (by omega)).mp y)
        refine ifF (c := nI l = 0) nz ?_
        refine ifF (c := nI l = 0) nz ?_
        rw [euN, decide_eq_false z, Bool.false_or] at he
        have hm := Nat.mod_lt g (Nat.pos_of_ne_zero z)
        have r := ih l (g % l) (i + 1) (some (.int (nI (g % l)))) (by omega) hl (by omega) he ((Nat.gcd_rec l g).symm.trans hgcd)
        rw [nI_succ, ← nI_mod (by omega) (by omega)] at r
        exact r
  refine cw_ent ok7_commonDivisor (at1 7) 40 ?_
  have h60 := euN_two 30 b a ha
  have k60 := key 64 b a 0 none rfl hb ha ?_ rfl
  · exact k60
  · have mono : ∀ f g l, euN f g l = true → euN (f + 1) g l = true := by
      intro f
      induction f with
      | zero => intro g l h; rw [euN, show decide (l = 0) = true from h, Bool.true_or]
      | succ f ih =>
        intro g l h
        rw [euN] at h ⊢
        rcases Bool.or_eq_true_iff.mp h with h | h
        · rw [h, Bool.true_or]
        · rw [ih _ _ h, Bool.or_true]
    exact mono _ _ _ (mono _ _ _ (mono _ _ _ (mono _ _ _ h60)))
