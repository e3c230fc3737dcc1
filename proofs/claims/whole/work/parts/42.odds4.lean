/-! ===== odds: the model ===== -/
def pc_n (a : Nat) : Nat → Nat
  | 0 => 0
  | i + 1 => pc_n a i + (bif a.testBit i then 1 else 0)
theorem pc_n6 : ∀ a, a < 64 → pc_n a 6 = pc6 a := by decide +kernel
theorem pc_top {a n : Nat} (ha : a < 2 ^ n) (n6 : n ≤ 6) : pc_n a n = pc6 a := by
  have hp := pow_le6 n6
  rw [← pc_n6 a (by omega)]
  have : ∀ k, pc_n a (n + k) = pc_n a n := by
    intro k
    induction k with
    | zero => rfl
    | succ k ih =>
      rw [show n + (k + 1) = n + k + 1 by omega, pc_n, ih, Nat.testBit_lt_two_pow (Nat.lt_of_lt_of_le ha (Nat.pow_le_pow_right (by decide) (by omega)))]
      rfl
  have := this (6 - n)
  rw [show n + (6 - n) = 6 by omega] at this
  exact this.symm
/-- the ways of one set, hand by hand -/
def wyN (a x t : Nat) : Nat → Nat
  | 0 => 1
  | i + 1 => wyN a x t i * (bif a.testBit i then (bif t.testBit i then x else 10 - x) else 1)
theorem wyN_eq {a x t : Nat} (hs : ∀ h, h < 6 → t.testBit h = true → a.testBit h = true) (hx : ∀ h, h < 6 → (a ^^^ t).testBit h = (a.testBit h && !t.testBit h)) : ∀ i, i ≤ 6 → wyN a x t i = x ^ pc_n t i * (10 - x) ^ pc_n (a ^^^ t) i
  | 0, _ => rfl
  | i + 1, hi => by
    rw [wyN, wyN_eq hs hx i (by omega), pc_n, pc_n, hx i (by omega)]
    cases ea : a.testBit i with
    | false =>
      have et : t.testBit i = false := by
        cases et : t.testBit i with
        | false => rfl
        | true => rw [hs i (by omega) et] at ea; cases ea
      rw [et]
      simp
    | true =>
      cases et : t.testBit i with
      | true => simp [Nat.pow_succ]; rw [Nat.mul_right_comm]
      | false => simp [Nat.pow_succ]; rw [Nat.mul_assoc]
theorem cm_oddsG {d n0 : Nat} {sv xv wv uv dv : Int32} {G : Nat} {M : AM} {L : AL} {Q : QT} (hend : ∀ v, AW E8_odds (d + 3) 0 n0 Q 240 [some (.ref 0), some (.int sv), some (.int xv), some (.int wv), some (.int uv), some (.int dv), some (.int (nI G)), some (.int (nI 0)), v] [] Sm M L 0) :
    ∀ b a v, a < 2 ^ 30 → b < 2 ^ 30 → Nat.gcd b a = G → AW E8_odds (d + 3) 0 n0 Q 217 [some (.ref 0), some (.int sv), some (.int xv), some (.int wv), some (.int uv), some (.int dv), some (.int (nI a)), some (.int (nI b)), v] [] Sm M L 0 := by
  intro b
  induction b using Nat.strongRecOn with
  | _ b ih =>
    intro a v ha hb hG
    by_cases z : b = 0
    · subst z
      rw [Nat.gcd_zero_left] at hG
      subst hG
      refine aw_run ok8_odds (at2 217 240) 60 ?_
      exact hend v
    · have nz : ¬ nI b = 0 := fun y => z ((nI_eq (b := 0) (by omega) (by omega)).mp y)
      have hm := Nat.mod_lt a (Nat.pos_of_ne_zero z)
      have r := ih (a % b) hm b (some (.int (nI (a % b)))) hb (by omega) ((Nat.gcd_rec b a).symm.trans hG)
      rw [← nI_mod (by omega) (by omega)] at r
      refine aw_run ok8_odds (at1 217) 60 ?_
      refine ifF (c := nI b = 0) nz ?_
      refine ifF (c := nI b = 0) nz ?_
      exact r
theorem cm_oddsD {d n0 n a : Nat} {sv xv wv : Int32} {M : AM} {L : AL} {Q : QT} (hn : M 2 0 = nI n) (n6 : n ≤ 6) (ha : M 13 0 = nI a) (a64 : a < 64)
    (hend : AW E8_odds (d + 3) 0 n0 Q 79 [some (.ref 0), some (.int sv), some (.int xv), some (.int wv), some (.int 0), some (.int (nI (10 ^ pc_n a n))), some (.int (nI n)), none, none] [] Sm M L 0) :
    AW E8_odds (d + 3) 0 n0 Q 38 [some (.ref 0), some (.int sv), some (.int xv), some (.int wv), some (.int 0), some (.int (nI 1)), some (.int (nI 0)), none, none] [] Sm M L 0 := by
  refine aw_loop n (fun i => [some (.ref 0), some (.int sv), some (.int xv), some (.int wv), some (.int 0), some (.int (nI (10 ^ pc_n a i))), some (.int (nI i)), none, none]) (fun _ => M) ?_ ?_
  · refine aw_run ok8_odds (at2 38 79) 60 ?_
    refine inBI 0 rfl (by decide) ?_
    exact ifT (c := M 2 0 ≤ nI n) (by rw [hn]; exact Int32.le_refl _) hend
  · intro i hi ih
    rw [nI_succ, pc_n] at ih
    have fa := fAb_nI a a64 i (by omega)
    refine aw_run ok8_odds (at1 38) 60 ?_
    refine inBI 0 rfl (by decide) ?_
    refine ifF (c := M 2 0 ≤ nI i) (by rw [hn]; exact nI_ge hi (by omega)) ?_
    refine cm_isAboard (Or.inl rfl) ?_
    rw [ha, fa]
    cases ea : a.testBit i with
    | true =>
      rw [ea, cond_true, Nat.pow_succ, ← pk_mul] at ih
      exact ih
    | false =>
      rw [ea, cond_false, Nat.add_zero (pc_n a i), ← Nat.mul_one (10 ^ pc_n a i), ← pk_mul] at ih
      exact ih
theorem cm_oddsW {d n0 n a t x w0 : Nat} {sv wv uv dv : Int32} {M : AM} {L : AL} {Q : QT} (hn : M 2 0 = nI n) (n6 : n ≤ 6) (ha : M 13 0 = nI a) (a64 : a < 64) (t64 : t < 64) (hx : x ≤ 10)
    (hend : AW E8_odds (d + 3) 0 n0 Q 196 [some (.ref 0), some (.int sv), some (.int (nI x)), some (.int wv), some (.int uv), some (.int dv), some (.int (nI t)), some (.int (nI (w0 * wyN a x t n))), some (.int (nI n))] [] Sm M L 0) :
    AW E8_odds (d + 3) 0 n0 Q 138 [some (.ref 0), some (.int sv), some (.int (nI x)), some (.int wv), some (.int uv), some (.int dv), some (.int (nI t)), some (.int (nI w0)), some (.int (nI 0))] [] Sm M L 0 := by
  have key : AW E8_odds (d + 3) 0 n0 Q 138 [some (.ref 0), some (.int sv), some (.int (nI x)), some (.int wv), some (.int uv), some (.int dv), some (.int (nI t)), some (.int (nI (w0 * wyN a x t 0))), some (.int (nI 0))] [] Sm M L 0 := by
    refine aw_loop n (fun i => [some (.ref 0), some (.int sv), some (.int (nI x)), some (.int wv), some (.int uv), some (.int dv), some (.int (nI t)), some (.int (nI (w0 * wyN a x t i))), some (.int (nI i))]) (fun _ => M) ?_ ?_
    · refine aw_run ok8_odds (at2 138 196) 60 ?_
      refine inBI 0 rfl (by decide) ?_
      exact ifT (c := M 2 0 ≤ nI n) (by rw [hn]; exact Int32.le_refl _) hend
    · intro i hi ih
      rw [nI_succ, wyN, ← Nat.mul_assoc, ← pk_mul] at ih
      have fa := fAb_nI a a64 i (by omega)
      have bt := bit1 t t64 i (by omega)
      have b2 : (10 : Int32) - nI x = nI (10 - x) := pk_sub (a := 10) hx
      refine aw_run ok8_odds (at1 138) 60 ?_
      refine inBI 0 rfl (by decide) ?_
      refine ifF (c := M 2 0 ≤ nI i) (by rw [hn]; exact nI_ge hi (by omega)) ?_
      refine cm_isAboard (Or.inl rfl) ?_
      rw [ha, fa]
      cases ea : a.testBit i with
      | false =>
        rw [ea, cond_false] at ih
        exact ih
      | true =>
        rw [ea, cond_true] at ih
        cases et : t.testBit i with
        | true =>
          rw [et, cond_true] at ih
          refine ifT (c := nI t >>> (nI i &&& 31) &&& 1 = 1) (bt.mpr et) ?_
          exact ih
        | false =>
          rw [et, cond_false, ← b2] at ih
          refine ifF (c := nI t >>> (nI i &&& 31) &&& 1 = 1) (fun y => by rw [bt.mp y] at et; cases et) ?_
          exact ih
  rw [wyN, Nat.mul_one] at key
  exact key
