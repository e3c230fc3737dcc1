/-! ===== sharing: the class ===== -/
theorem sr_app (M : AM) (l : Nat) (g : Nat → Int32) (k i : Nat) : sr M l g k i = if k = l then g i else M k i := by
  by_cases h : k = l
  · subst h; rw [sr_at, if_pos rfl]
  · rw [sr_ne _ _ h, if_neg h]
def pwM (M : AM) (w : Nat) (u : Nat → Nat) (ch i : Nat) : AM := um (sr (sr M 21 (fun j => if j < i then nI (Pn w u ch j) else M 21 j)) 20 (fun j => if j < i then nI (w * Pn w u ch j) else M 20 j)) 19 3 (nI (Cn w u ch i))
def pyI (w : Nat) (u : Nat → Nat) (ch i : Nat) : Int32 := if w = 0 then nI (u i) else nI (Cn w u ch i / w)
def pyL (w : Nat) (u : Nat → Nat) (ch : Nat) : Nat → Option Value
  | 0 => none
  | i + 1 => some (.int (pyI w u ch i))
theorem py_min {w : Nat} {u : Nat → Nat} {ch i : Nat} (hc : ch < 2 ^ 30) (hu : u i < 2 ^ 30) : (if pyI w u ch i < nI (u i) then pyI w u ch i else nI (u i)) = nI (Pn w u ch i) := by
  have hci := Cn_le w u ch i
  unfold pyI Pn pay
  by_cases h : w = 0
  · rw [if_pos h, if_pos h, if_neg Int32.lt_irrefl]
  · rw [if_neg h, if_neg h]
    have hd := Nat.div_le_self (Cn w u ch i) w
    by_cases h2 : Cn w u ch i / w < u i
    · rw [if_pos (Int32.not_le.mp (fun y => absurd ((nI_leI (by omega) (by omega)).mp y) (by omega))), Nat.min_eq_right (by omega)]
    · rw [if_neg (Int32.not_lt.mpr ((nI_leI (by omega) (by omega)).mpr (by omega))), Nat.min_eq_left (by omega)]
theorem cx_payWounds {d rot w ch : Nat} {u : Nat → Nat} {M : AM} {L : AL} {Q : QT} (hw : M 1 3 = nI w) (hw2 : w < 2 ^ 30) (hc : ch < 2 ^ 30) (hcv : M 19 3 = nI ch) (hu2 : ∀ h, h < 6 → u h < 2 ^ 30) (hu : ∀ h, h < 6 → M 12 h = nI (u h))
    (hq : Q none (Sx rot) (pwM M w u ch 6) L) : CW E5_payWounds (d + 1) 0 [.ref 19, .ref 1, .ref 9] (Sx rot) M L Q := by
  have key : AW E5_payWounds (d + 1) 0 (Sx rot).length Q 2 [some (.ref 19), some (.ref 1), some (.ref 9), some (.int (nI 0)), none] [] (Sx rot) (pwM M w u ch 0) L 0 := by
    refine aw_loop 6 (fun i => [some (.ref 19), some (.ref 1), some (.ref 9), some (.int (nI i)), pyL w u ch i]) (fun i => pwM M w u ch i) ?_ ?_
    · refine aw_run ok5_payWounds (at1 2) 60 ?_
      exact hq
    · intro i hi ih
      rw [nI_succ] at ih
      have g1 : pwM M w u ch i 1 3 = nI w := by
        unfold pwM; rw [um_ne _ _ _ (by decide), sr_ne _ _ (by decide), sr_ne _ _ (by decide), hw]
      have g12 : pwM M w u ch i 12 i = nI (u i) := by
        unfold pwM; rw [um_ne _ _ _ (by decide), sr_ne _ _ (by decide), sr_ne _ _ (by decide), hu i hi]
      have g19 : pwM M w u ch i 19 3 = nI (Cn w u ch i) := by
        unfold pwM; rw [um_same]
      have hci := Cn_le w u ch i
      have hm := py_min (w := w) (i := i) hc (hu2 i hi)
      have hpl := pay_le w (Cn w u ch i) (u i)
      have hpm := pay_mul w (Cn w u ch i) (u i)
      have fin : ∀ (x y z : Int32), x = nI (Pn w u ch i) → y = nI (w * Pn w u ch i) → z = nI (Cn w u ch (i + 1)) → um (um (um (pwM M w u ch i) 21 i x) 20 i y) 19 3 z = pwM M w u ch (i + 1) := by
        intro x y z hx hy hz
        subst hx; subst hy; subst hz
        funext l j
        unfold pwM
        simp only [um_app, sr_app]
        by_cases l19 : l = 19
        · subst l19
          by_cases j3 : j = 3
          · subst j3; simp
          · simp [j3]
        by_cases l20 : l = 20
        · subst l20
          by_cases ji : j = i
          · subst ji; simp
          · simp only [l19, ji, if_true, if_false, and_true, true_and, and_false, false_and]
            by_cases jl : j < i
            · rw [if_pos jl, if_pos (by omega)]
            · rw [if_neg jl, if_neg (by omega)]
        by_cases l21 : l = 21
        · subst l21
          by_cases ji : j = i
          · subst ji; simp
          · simp only [l19, l20, ji, if_true, if_false, and_true, true_and, and_false, false_and]
            by_cases jl : j < i
            · rw [if_pos jl, if_pos (by omega)]
            · rw [if_neg jl, if_neg (by omega)]
        simp [l19, l20, l21]
      have rest : AW E5_payWounds (d + 1) 0 (Sx rot).length Q 33 [some (.ref 19), some (.ref 1), some (.ref 9), some (.int (nI i)), pyL w u ch i] [.int (pyI w u ch i)] (Sx rot) (pwM M w u ch i) L 0 := by
        refine aw_run ok5_payWounds (at1 2) 60 ?_
        refine inBI (n := 6) i rfl hi ?_
        refine inBI (n := 6) i rfl hi ?_
        refine inBI (n := 6) i rfl hi ?_
        refine inBI (n := 6) i rfl hi ?_
        refine inBI (n := 6) i rfl hi ?_
        refine cast (congrArg (fun z => AW E5_payWounds (d + 1) 0 (Sx rot).length Q 2 [some (.ref 19), some (.ref 1), some (.ref 9), some (.int (nI i + 1)), some (.int (pyI w u ch i))] [] (Sx rot) z L 0) ?_) ih
        refine (fin _ _ _ ?_ ?_ ?_).symm
        · rw [g12, hm]
        · rw [um_same, um_ne _ _ _ (by decide), g12, hm, g1, pk_mul, Nat.mul_comm]
        · rw [um_ne _ _ _ (by decide), um_ne _ _ _ (by decide), g19, um_same, um_same, um_ne _ _ _ (by decide), g12, hm, g1, pk_mul, Nat.mul_comm]
          exact pk_sub hpm
      refine aw_run ok5_payWounds (at2 2 33) 60 ?_
      refine ifF (nI_ge (b := 6) hi (by decide)) ?_
      by_cases z : w = 0
      · refine ifT (c := pwM M w u ch i 1 3 ≤ 0) (by rw [g1, z]; decide) ?_
        refine inBI (n := 6) i rfl hi ?_
        have e : pyI w u ch i = pwM M w u ch i 12 i := by rw [g12]; unfold pyI; rw [if_pos z]
        rw [e] at rest
        exact rest
      · refine ifF (c := pwM M w u ch i 1 3 ≤ 0) (by rw [g1]; exact fun y => absurd ((nI_leI (b := 0) (by omega) (by omega)).mp y) (by omega)) ?_
        have nz : ¬ pwM M w u ch i 1 3 = 0 := by rw [g1]; exact fun y => z ((nI_eq (b := 0) (by omega) (by omega)).mp y)
        refine ifF (c := pwM M w u ch i 1 3 = 0) nz ?_
        have e : pyI w u ch i = pwM M w u ch i 19 3 / pwM M w u ch i 1 3 := by rw [g19, g1, pk_div (by omega) (by omega) (by omega)]; unfold pyI; rw [if_neg z]
        rw [e] at rest
        exact rest
  have e0 : pwM M w u ch 0 = M := by
    funext l j
    unfold pwM
    simp only [um_app, sr_app]
    by_cases l19 : l = 19
    · subst l19
      by_cases j3 : j = 3
      · subst j3; simp [hcv, Cn]
      · simp [j3]
    by_cases l20 : l = 20
    · subst l20; simp
    by_cases l21 : l = 21
    · subst l21; simp
    simp [l19, l20, l21]
  rw [e0] at key
  refine cw_ent ok5_payWounds (at1 2) 60 ?_
  exact key
def rk0 (M : AM) (i : Nat) : AM := sr (sr (um (um M 19 2 0) 19 3 (M 9 2)) 20 (fun j => if j < i then 0 else M 20 j)) 21 (fun j => if j < i then 0 else M 21 j)
theorem cx_reckon {d rot w ch : Nat} {u : Nat → Nat} {M : AM} {L : AL} {Q : QT} (hw : M 1 3 = nI w) (hw2 : w < 2 ^ 30) (hc : ch < 2 ^ 30) (hcv : M 9 2 = nI ch) (hu2 : ∀ h, h < 6 → u h < 2 ^ 30) (hu : ∀ h, h < 6 → M 12 h = nI (u h))
    {pt e : Int32} (hpt : sumTo (fPart (M 9 0) (M 9 1) (M 2)) 6 = pt) (he : nI (Cn w u ch 6) / pt = e)
    (h1 : pt ≤ 0 → ∀ R : AM, (∀ l, l < 19 ∨ 21 < l → R l = M l) → (∀ h, h < 6 → R 20 h = 0) → (∀ h, h < 6 → R 21 h = 0) → R 19 2 = 0 → R 19 3 = nI ch → Q none (Sx rot) R L)
    (h2 : ¬ pt ≤ 0 → ∀ R : AM, (∀ l, l < 19 ∨ 21 < l → R l = M l) → (∀ h, h < 6 → R 20 h = nI (w * Pn w u ch h) + e * fPart (M 9 0) (M 9 1) (M 2) h) → (∀ h, h < 6 → R 21 h = nI (Pn w u ch h)) → R 19 2 = e → R 19 3 = nI (Cn w u ch 6) - e * pt → Q none (Sx rot) R L) : CW E5_reckon (d + 4) 0 [.ref 19, .ref 1, .ref 9] (Sx rot) M L Q := by
  have key : AW E5_reckon (d + 4) 0 (Sx rot).length Q 15 [some (.ref 19), some (.ref 1), some (.ref 9), some (.int (nI 0)), none] [] (Sx rot) (rk0 M 0) L 0 := by
    refine aw_loop 6 (fun i => [some (.ref 19), some (.ref 1), some (.ref 9), some (.int (nI i)), none]) (fun i => rk0 M i) ?_ ?_
    · have k9 : rk0 M 6 9 = M 9 := by unfold rk0; rw [sr_ne _ _ (by decide), sr_ne _ _ (by decide), um_ne _ _ _ (by decide), um_ne _ _ _ (by decide)]
      have kf : ∀ l, l < 19 ∨ 21 < l → rk0 M 6 l = M l := fun l hl => by unfold rk0; rw [sr_ne _ _ (by omega), sr_ne _ _ (by omega), um_ne _ _ _ (by omega), um_ne _ _ _ (by omega)]
      have k20 : ∀ h, h < 6 → rk0 M 6 20 h = 0 := fun h hh => by unfold rk0; rw [sr_ne _ _ (by decide), sr_at, if_pos hh]
      have k21 : ∀ h, h < 6 → rk0 M 6 21 h = 0 := fun h hh => by unfold rk0; rw [sr_at, if_pos hh]
      have k192 : rk0 M 6 19 2 = 0 := by unfold rk0; rw [sr_ne _ _ (by decide), sr_ne _ _ (by decide), um_oth _ _ _ (by decide), um_same]
      have k193 : rk0 M 6 19 3 = nI ch := by unfold rk0; rw [sr_ne _ _ (by decide), sr_ne _ _ (by decide), um_same, hcv]
      generalize hB : rk0 M 6 = B at *
      have b2 : B 2 = M 2 := kf 2 (by omega)
      refine aw_run ok5_reckon (at2 15 86) 60 ?_
      refine cx_allParts ?_
      rw [k9, b2, hpt]
      refine iteI (fun z => ?_) (fun z => ?_)
      · have z' : ¬ pt ≤ 0 := Int32.not_le.mpr z
        refine cx_payWounds (w := w) (ch := ch) (u := u) (by rw [kf 1 (by omega)]; exact hw) hw2 hc k193 hu2 (fun h hh => by rw [kf 12 (by omega)]; exact hu h hh) ?_
        have p19 : ∀ j, pwM B w u ch 6 19 j = if j = 3 then nI (Cn w u ch 6) else B 19 j := fun j => by
          unfold pwM
          rw [um_app]
          by_cases j3 : j = 3
          · rw [if_pos ⟨rfl, j3⟩, if_pos j3]
          · rw [if_neg (fun y => j3 y.2), if_neg j3, sr_ne _ _ (by decide), sr_ne _ _ (by decide)]
        have p20 : ∀ h, h < 6 → pwM B w u ch 6 20 h = nI (w * Pn w u ch h) := fun h hh => by
          unfold pwM; rw [um_ne _ _ _ (by decide), sr_at, if_pos hh]
        have p21 : ∀ h, h < 6 → pwM B w u ch 6 21 h = nI (Pn w u ch h) := fun h hh => by
          unfold pwM; rw [um_ne _ _ _ (by decide), sr_ne _ _ (by decide), sr_at, if_pos hh]
        have pf : ∀ l, l < 19 ∨ 21 < l → pwM B w u ch 6 l = M l := fun l hl => by
          unfold pwM; rw [um_ne _ _ _ (by omega), sr_ne _ _ (by omega), sr_ne _ _ (by omega), kf l hl]
        have p193 : pwM B w u ch 6 19 3 = nI (Cn w u ch 6) := by rw [p19, if_pos rfl]
        generalize hP : pwM B w u ch 6 = P at *
        refine ifF (c := pt = 0) (fun y => z' (by rw [y]; exact Int32.le_refl _)) ?_
        have eN : ∀ x y : Int32, x = e → y = nI (Cn w u ch 6) - e * pt → AW E5_reckon (d + 4) 0 (Sx rot).length Q 86 [some (.ref 19), some (.ref 1), some (.ref 9), some (.int pt), some (.int (nI 0))] [] (Sx rot) (um (um P 19 2 x) 19 3 y) L 0 := by
          intro x y hx hy
          subst hx
          generalize hN : um (um P 19 2 x) 19 3 y = N
          have nf : ∀ l, l < 19 ∨ 21 < l → N l = M l := fun l hl => by rw [← hN, um_ne _ _ _ (by omega), um_ne _ _ _ (by omega), pf l hl]
          have n20 : ∀ h, h < 6 → N 20 h = nI (w * Pn w u ch h) := fun h hh => by rw [← hN, um_ne _ _ _ (by decide), um_ne _ _ _ (by decide), p20 h hh]
          have n21 : ∀ h, h < 6 → N 21 h = nI (Pn w u ch h) := fun h hh => by rw [← hN, um_ne _ _ _ (by decide), um_ne _ _ _ (by decide), p21 h hh]
          have n2 : N 19 2 = x := by rw [← hN, um_oth _ _ _ (by decide), um_same]
          have n3 : N 19 3 = y := by rw [← hN, um_same]
          have loop : AW E5_reckon (d + 4) 0 (Sx rot).length Q 86 [some (.ref 19), some (.ref 1), some (.ref 9), some (.int pt), some (.int (nI 0))] [] (Sx rot) (sr N 20 (fun j => if j < 0 then N 20 j + x * fPart (M 9 0) (M 9 1) (M 2) j else N 20 j)) L 0 := by
            refine aw_loop 6 (fun i => [some (.ref 19), some (.ref 1), some (.ref 9), some (.int pt), some (.int (nI i))]) (fun i => sr N 20 (fun j => if j < i then N 20 j + x * fPart (M 9 0) (M 9 1) (M 2) j else N 20 j)) ?_ ?_
            · refine aw_run ok5_reckon (at1 86) 60 ?_
              refine h2 z' _ (fun l hl => by rw [sr_ne _ _ (by omega), nf l hl]) (fun h hh => by rw [sr_at, if_pos hh, n20 h hh]) (fun h hh => by rw [sr_ne _ _ (by decide), n21 h hh]) (by rw [sr_ne _ _ (by decide), n2]) (by rw [sr_ne _ _ (by decide), n3, hy])
            · intro i hi ih
              rw [nI_succ] at ih
              generalize hf : (fun j => if j < i then N 20 j + x * fPart (M 9 0) (M 9 1) (M 2) j else N 20 j) = f
              have fi : f i = N 20 i := by rw [← hf]; exact if_neg (by omega)
              refine aw_run ok5_reckon (at1 86) 60 ?_
              refine ifF (nI_ge (b := 6) hi (by decide)) ?_
              refine inBI (n := 6) i rfl hi ?_
              refine cx_partOf hi ?_
              refine inBI (n := 6) i rfl hi ?_
              refine cast (congrArg (fun z => AW E5_reckon (d + 4) 0 (Sx rot).length Q 86 [some (.ref 19), some (.ref 1), some (.ref 9), some (.int pt), some (.int (nI i + 1))] [] (Sx rot) z L 0) ?_) ih
              rw [um_sr]
              congr 1
              funext j
              by_cases ji : j = i
              · subst ji
                rw [if_pos (by omega), pk_us, sr_at, fi, sr_ne _ _ (show (19 : Nat) ≠ 20 by decide), n2, sr_ne _ _ (show (9 : Nat) ≠ 20 by decide), sr_ne _ _ (show (2 : Nat) ≠ 20 by decide), nf 9 (by omega), nf 2 (by omega)]
              · rw [pk_un ji, ← hf]
                dsimp only
                by_cases jl : j < i
                · rw [if_pos jl, if_pos (by omega)]
                · rw [if_neg jl, if_neg (by omega)]
          have e0 : (fun j => if j < 0 then N 20 j + x * fPart (M 9 0) (M 9 1) (M 2) j else N 20 j) = N 20 := by
            funext j; rw [if_neg (by omega)]
          rw [e0, sr_self] at loop
          exact loop
        refine eN _ _ ?_ ?_
        · rw [p193]; exact he
        · rw [um_oth _ _ _ (by decide), um_same, p193, he]
      · exact h1 (Int32.not_lt.mp z) B kf k20 k21 k192 k193
    · intro i hi ih
      rw [nI_succ] at ih
      refine aw_run ok5_reckon (at1 15) 60 ?_
      refine ifF (nI_ge (b := 6) hi (by decide)) ?_
      refine inBI (n := 6) i rfl hi ?_
      refine inBI (n := 6) i rfl hi ?_
      refine cast (congrArg (fun z => AW E5_reckon (d + 4) 0 (Sx rot).length Q 15 [some (.ref 19), some (.ref 1), some (.ref 9), some (.int (nI i + 1)), none] [] (Sx rot) z L 0) ?_) ih
      funext l j
      unfold rk0
      simp only [um_app, sr_app]
      by_cases l21 : l = 21
      · subst l21
        by_cases ji : j = i
        · subst ji; simp
        · simp only [ji, if_true, if_false, and_true, true_and, and_false, false_and]
          by_cases jl : j < i
          · simp [jl, show j < i + 1 by omega]
          · simp [jl, show ¬ j < i + 1 by omega]
      by_cases l20 : l = 20
      · subst l20
        by_cases ji : j = i
        · subst ji; simp
        · by_cases jl : j < i
          · simp [ji, jl, show j < i + 1 by omega]
          · simp [ji, jl, show ¬ j < i + 1 by omega]
      simp [l20, l21]
  have e0 : rk0 M 0 = um (um M 19 2 0) 19 3 (M 9 2) := by
    funext l j
    unfold rk0
    simp only [um_app, sr_app]
    by_cases l21 : l = 21
    · subst l21; simp
    by_cases l20 : l = 20
    · subst l20; simp
    simp [l20, l21]
  rw [e0] at key
  refine cw_ent ok5_reckon (at1 15) 60 ?_
  exact key
