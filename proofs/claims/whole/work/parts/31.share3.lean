/-! ===== sharing: the class ===== -/
theorem sr_app (M : AM) (l : Nat) (g : Nat → Int32) (k i : Nat) : sr M l g k i = if k = l then g i else M k i := by
  by_cases h : k = l
  · subst h; rw [sr_at, if_pos rfl]
  · rw [sr_ne _ _ h, if_neg h]
def pwM (M : AM) (w : Nat) (u : Nat → Nat) (ch i : Nat) : AM := um (sr (sr M 21 (fun j => if j < i then nI (Pn w u ch j) else M 21 j)) 20 (fun j => if j < i then nI (w * Pn w u ch j) else M 20 j)) 19 3 (nI (Cn w u ch i))
def pyI (w : Nat) (u : Nat → Nat) (ch i : Nat) : Int32 := if w = 0 then nI (u i) else nI (Cn w u ch i / w)
def pyL (w : Nat) (u : Nat → Nat) (ch : Nat) : Nat → Option Value
  | 0 => none
  | i + 1 => some (.int (pyI w u ch i))
theorem py_min {w : Nat} {u : Nat → Nat} {ch i : Nat} (hc : ch < 2 ^ 30) (hu : u i < 2 ^ 30) : (if pyI w u ch i < nI (u i) then pyI w u ch i else nI (u i)) = nI (Pn w u ch i) := by
  have hci := Cn_le w u ch i
  unfold pyI Pn pay
  by_cases h : w = 0
  · rw [if_pos h, if_pos h, if_neg (Int32.lt_irrefl _)]
  · rw [if_neg h, if_neg h]
    have hd := Nat.div_le_self (Cn w u ch i) w
    by_cases h2 : Cn w u ch i / w < u i
    · rw [if_pos (Int32.not_le.mp (fun y => absurd ((nI_leI (by omega) (by omega)).mp y) (by omega))), Nat.min_eq_right (by omega)]
    · rw [if_neg (Int32.not_lt.mpr ((nI_leI (by omega) (by omega)).mpr (by omega))), Nat.min_eq_left (by omega)]
theorem cx_payWounds {d rot w ch : Nat} {u : Nat → Nat} {M : AM} {L : AL} {Q : QT} (hw : M 1 3 = nI w) (hw2 : w < 2 ^ 30) (hc : ch < 2 ^ 30) (hcv : M 19 3 = nI ch) (hu2 : ∀ h, h < 6 → u h < 2 ^ 30) (hu : ∀ h, h < 6 → M 12 h = nI (u h))
    (hq : Q none (Sx rot) (pwM M w u ch 6) L) : CW E5_payWounds (d + 1) 0 [.ref 19, .ref 1, .ref 9] (Sx rot) M L Q := by
  have key : AW E5_payWounds (d + 1) 0 (Sx rot).length Q 2 [some (.ref 19), some (.ref 1), some (.ref 9), some (.int (nI 0)), none] [] (Sx rot) (pwM M w u ch 0) L 0 := by
    refine aw_loop 6 (fun i => [some (.ref 19), some (.ref 1), some (.ref 9), some (.int (nI i)), pyL w u ch i]) (fun i => pwM M w u ch i) ?_ ?_
    · refine aw_run ok5_payWounds (at1 2) 60 ?_
      exact hq
    · intro i hi ih
      rw [nI_succ] at ih
      have g1 : pwM M w u ch i 1 3 = nI w := by
        unfold pwM; rw [um_ne _ _ _ (by decide), sr_ne _ _ (by decide), sr_ne _ _ (by decide), hw]
      have g12 : pwM M w u ch i 12 i = nI (u i) := by
        unfold pwM; rw [um_ne _ _ _ (by decide), sr_ne _ _ (by decide), sr_ne _ _ (by decide), hu i hi]
      have g19 : pwM M w u ch i 19 3 = nI (Cn w u ch i) := by
        unfold pwM; rw [um_same]
      have hci := Cn_le w u ch i
      have hm := py_min (w := w) (i := i) hc (hu2 i hi)
      have hpl := pay_le w (Cn w u ch i) (u i)
      have hpm := pay_mul w (Cn w u ch i) (u i)
      have fin : ∀ (x y z : Int32), x = nI (Pn w u ch i) → y = nI (w * Pn w u ch i) → z = nI (Cn w u ch (i + 1)) → um (um (um (pwM M w u ch i) 21 i x) 20 i y) 19 3 z = pwM M w u ch (i + 1) := by
        intro x y z hx hy hz
        subst hx; subst hy; subst hz
        funext l j
        unfold pwM
        simp only [um_app, sr_app]
        by_cases l19 : l = 19
        · subst l19
          by_cases j3 : j = 3
          · subst j3; simp
          · simp [j3]
        by_cases l20 : l = 20
        · subst l20
          by_cases ji : j = i
          · subst ji; simp
          · simp only [l19, ji, if_true, if_false, and_true, true_and, and_false, false_and]
            by_cases jl : j < i
            · rw [if_pos jl, if_pos (by omega)]
            · rw [if_neg jl, if_neg (by omega)]
        by_cases l21 : l = 21
        · subst l21
          by_cases ji : j = i
          · subst ji; simp
          · simp only [l19, l20, ji, if_true, if_false, and_true, true_and, and_false, false_and]
            by_cases jl : j < i
            · rw [if_pos jl, if_pos (by omega)]
            · rw [if_neg jl, if_neg (by omega)]
        simp [l19, l20, l21]
      have rest : AW E5_payWounds (d + 1) 0 (Sx rot).length Q 33 [some (.ref 19), some (.ref 1), some (.ref 9), some (.int (nI i)), pyL w u ch i] [.int (pyI w u ch i)] (Sx rot) (pwM M w u ch i) L 0 := by
        refine aw_run ok5_payWounds (at1 2) 60 ?_
        refine inBI (n := 6) i rfl hi ?_
        refine inBI (n := 6) i rfl hi ?_
        refine inBI (n := 6) i rfl hi ?_
        refine inBI (n := 6) i rfl hi ?_
        refine inBI (n := 6) i rfl hi ?_
        refine cast (congrArg (fun z => AW E5_payWounds (d + 1) 0 (Sx rot).length Q 2 [some (.ref 19), some (.ref 1), some (.ref 9), some (.int (nI i + 1)), some (.int (pyI w u ch i))] [] (Sx rot) z L 0) ?_) ih
        refine (fin _ _ _ ?_ ?_ ?_).symm
        · rw [g12, hm]
        · rw [um_same, um_ne _ _ _ (by decide), g12, hm, g1, pk_mul, Nat.mul_comm]
        · rw [um_ne _ _ _ (by decide), um_ne _ _ _ (by decide), g19, um_same, um_same, um_ne _ _ _ (by decide), g12, hm, g1, pk_mul, Nat.mul_comm]
          exact pk_sub hpm
      refine aw_run ok5_payWounds (at2 2 33) 60 ?_
      refine ifF (nI_ge (b := 6) hi (by decide)) ?_
      by_cases z : w = 0
      · refine ifT (c := pwM M w u ch i 1 3 ≤ 0) (by rw [g1, z]; decide) ?_
        refine inBI (n := 6) i rfl hi ?_
        have e : pyI w u ch i = pwM M w u ch i 12 i := by rw [g12]; unfold pyI; rw [if_pos z]
        rw [e] at rest
        exact rest
      · refine ifF (c := pwM M w u ch i 1 3 ≤ 0) (by rw [g1]; exact fun y => absurd ((nI_leI (b := 0) (by omega) (by omega)).mp y) (by omega)) ?_
        have nz : ¬ pwM M w u ch i 1 3 = 0 := by rw [g1]; exact fun y => z ((nI_eq (b := 0) (by omega) (by omega)).mp y)
        refine ifF (c := pwM M w u ch i 1 3 = 0) nz ?_
        have e : pyI w u ch i = pwM M w u ch i 19 3 / pwM M w u ch i 1 3 := by rw [g19, g1, pk_div (by omega) (by omega) (by omega)]; unfold pyI; rw [if_neg z]
        rw [e] at rest
        exact rest
  have e0 : pwM M w u ch 0 = M := by
    funext l j
    unfold pwM
    simp only [um_app, sr_app]
    by_cases l19 : l = 19
    · subst l19
      by_cases j3 : j = 3
      · subst j3; simp [hcv, Cn]
      · simp [j3]
    by_cases l20 : l = 20
    · subst l20; simp
    by_cases l21 : l = 21
    · subst l21; simp
    simp [l19, l20, l21]
  rw [e0] at key
  refine cw_ent ok5_payWounds (at1 2) 60 ?_
  exact key
