/-! ===== sharing ===== -/
def pay (w c u : Nat) : Nat := if w = 0 then u else min u (c / w)
theorem pay_le (w c u : Nat) : pay w c u ≤ u := by
  unfold pay; split
  · exact Nat.le_refl _
  · exact Nat.min_le_left _ _
theorem pay_mul (w c u : Nat) : w * pay w c u ≤ c := by
  unfold pay; split
  · rename_i h; subst h; rw [Nat.zero_mul]; exact Nat.zero_le _
  · exact Nat.le_trans (Nat.mul_le_mul_left _ (Nat.min_le_right _ _)) (Nat.mul_div_le _ _)
theorem pay_step {w c u k : Nat} (h : k < pay w c u) : k < u ∧ w * k + w ≤ c := by
  refine ⟨Nat.lt_of_lt_of_le h (pay_le w c u), ?_⟩
  have h1 : w * (k + 1) ≤ w * pay w c u := Nat.mul_le_mul_left _ h
  have h2 := pay_mul w c u
  rw [Nat.mul_succ] at h1
  omega
theorem pay_end (w c u : Nat) : u - pay w c u = 0 ∨ c - w * pay w c u < w := by
  unfold pay
  by_cases h : w = 0
  · rw [if_pos h]; exact Or.inl (Nat.sub_self u)
  · rw [if_neg h]
    by_cases h2 : u ≤ c / w
    · rw [Nat.min_eq_left h2]; exact Or.inl (Nat.sub_self u)
    · rw [Nat.min_eq_right (by omega)]
      right
      have := Nat.div_add_mod c w
      have := Nat.mod_lt c (Nat.pos_of_ne_zero h)
      omega
def Cn (w : Nat) (u : Nat → Nat) (ch : Nat) : Nat → Nat
  | 0 => ch
  | i + 1 => Cn w u ch i - w * pay w (Cn w u ch i) (u i)
def Pn (w : Nat) (u : Nat → Nat) (ch i : Nat) : Nat := pay w (Cn w u ch i) (u i)
theorem Cn_le (w : Nat) (u : Nat → Nat) (ch : Nat) : ∀ i, Cn w u ch i ≤ ch
  | 0 => Nat.le_refl _
  | i + 1 => Nat.le_trans (Nat.sub_le _ _) (Cn_le w u ch i)
theorem Cn_stop {w : Nat} {u : Nat → Nat} {ch i : Nat} (h : Cn w u ch i < w) : ∀ k, Cn w u ch (i + k) = Cn w u ch i ∧ Pn w u ch (i + k) = 0
  | 0 => ⟨rfl, by
    show pay _ _ _ = 0
    unfold pay
    rw [if_neg (by omega), Nat.add_zero, Nat.div_eq_of_lt h, Nat.min_zero]⟩
  | k + 1 => by
    obtain ⟨h1, h2⟩ := Cn_stop h k
    have e : Cn w u ch (i + (k + 1)) = Cn w u ch i := by
      show Cn w u ch (i + k) - w * Pn w u ch (i + k) = _
      rw [h2, h1, Nat.mul_zero, Nat.sub_zero]
    refine ⟨e, ?_⟩
    unfold Pn pay
    rw [if_neg (by omega), e, Nat.div_eq_of_lt h, Nat.min_zero]
def inV (w i c ui : Nat) (v : Nat → Int32) (k j : Nat) : Int32 := if j = 2 then nI (c - w * k) else if j = 3 + i then v j + nI (w * k) else if j = 15 + i then nI (ui - k) else v j
def payV (w : Nat) (u : Nat → Nat) (ch : Nat) (v : Nat → Int32) (i j : Nat) : Int32 := if j = 2 then nI (Cn w u ch i) else if 3 ≤ j ∧ j < 3 + i then v j + nI (w * Pn w u ch (j - 3)) else if 15 ≤ j ∧ j < 15 + i then nI (u (j - 15) - Pn w u ch (j - 15)) else v j
theorem payV_in {w : Nat} {u : Nat → Nat} {ch i : Nat} {v : Nat → Int32} (hi : i < 6) (hu : v (15 + i) = nI (u i)) : inV w i (Cn w u ch i) (u i) (payV w u ch v i) 0 = payV w u ch v i ∧ inV w i (Cn w u ch i) (u i) (payV w u ch v i) (Pn w u ch i) = payV w u ch v (i + 1) := by
  constructor
  · funext j
    unfold inV
    by_cases h2 : j = 2
    · subst h2; rw [if_pos rfl]; unfold payV; rw [if_pos rfl, Nat.mul_zero, Nat.sub_zero]
    rw [if_neg h2]
    by_cases h3 : j = 3 + i
    · rw [if_pos h3, Nat.mul_zero, nI_0, Int32.add_zero]
    rw [if_neg h3]
    by_cases h15 : j = 15 + i
    · subst h15; rw [if_pos rfl]; unfold payV; rw [if_neg (by omega), if_neg (by omega), if_neg (by omega), hu, Nat.sub_zero]
    rw [if_neg h15]
  · funext j
    unfold inV
    by_cases h2 : j = 2
    · subst h2; rw [if_pos rfl]; unfold payV; rw [if_pos rfl]; rfl
    rw [if_neg h2]
    by_cases h3 : j = 3 + i
    · subst h3
      rw [if_pos rfl]
      unfold payV
      rw [if_neg (by omega), if_neg (by omega), if_neg (by omega), if_neg (by omega), if_pos (by omega), show 3 + i - 3 = i by omega]
    rw [if_neg h3]
    by_cases h15 : j = 15 + i
    · subst h15
      rw [if_pos rfl]
      unfold payV
      rw [if_neg (by omega), if_neg (by omega), if_pos (by omega), show 15 + i - 15 = i by omega]
    rw [if_neg h15]
    unfold payV
    rw [if_neg h2, if_neg h2]
    by_cases g3 : 3 ≤ j ∧ j < 3 + i
    · rw [if_pos g3, if_pos (by omega)]
    rw [if_neg g3, if_neg (by omega)]
    by_cases g15 : 15 ≤ j ∧ j < 15 + i
    · rw [if_pos g15, if_pos (by omega)]
    rw [if_neg g15, if_neg (by omega)]
theorem cm_payI13 {d n0 i w c ui : Nat} {v : Nat → Int32} {M : AM} {L : AL} {Q : QT} (hi : i < 6) (hw : M 12 0 = nI w) (hw2 : w < 2 ^ 30) (hc : c < 2 ^ 30) (hu : ui < 2 ^ 30)
    (hend : AW E8_shareAll d 0 n0 Q 78 [some (.ref 0), some (.ref 13), some (.int 1), some (.int (nI i)), none] [] Sm (sr M 13 (inV w i c ui v (pay w c ui))) L 0) : AW E8_shareAll d 0 n0 Q 18 [some (.ref 0), some (.ref 13), some (.int 1), some (.int (nI i)), none] [] Sm (sr M 13 (inV w i c ui v 0)) L 0 := by
  have e12 : ∀ f, sr M 13 f 12 0 = nI w := fun f => by rw [sr_ne _ _ (by decide), hw]
  have e2 : ∀ k, sr M 13 (inV w i c ui v k) 13 2 = nI (c - w * k) := fun k => by rw [sr_at]; rfl
  have e15 : ∀ k, sr M 13 (inV w i c ui v k) 13 (15 + i) = nI (ui - k) := fun k => by
    rw [sr_at]; unfold inV; rw [if_neg (by omega), if_neg (by omega), if_pos rfl]
  refine aw_loop (pay w c ui) (fun _ => [some (.ref 0), some (.ref 13), some (.int 1), some (.int (nI i)), none]) (fun k => sr M 13 (inV w i c ui v k)) ?_ ?_
  · refine aw_run ok8_shareAll (at2 18 78) 60 ?_
    refine inBI (n := 1158) (15 + i) (nI_add 15 i) (by omega) ?_
    rcases pay_end w c ui with z | z
    · refine ifT (c := sr M 13 (inV w i c ui v (pay w c ui)) 13 (15 + i) ≤ 0) ?_ hend
      rw [e15, z]; decide
    · refine iteI (fun _ => hend) (fun _ => ?_)
      refine inBI 2 rfl (by decide) ?_
      refine inBI 0 rfl (by decide) ?_
      refine ifT (c := sr M 13 (inV w i c ui v (pay w c ui)) 13 2 < sr M 13 (inV w i c ui v (pay w c ui)) 12 0) ?_ hend
      rw [e2, e12]
      exact Int32.not_le.mp (fun y => absurd ((nI_leI (by omega) (by omega)).mp y) (by omega))
  · intro k hk ih
    obtain ⟨p1, p2⟩ := pay_step hk
    refine aw_run ok8_shareAll (at1 18) 60 ?_
    refine inBI (n := 1158) (15 + i) (nI_add 15 i) (by omega) ?_
    refine ifF (c := sr M 13 (inV w i c ui v k) 13 (15 + i) ≤ 0) ?_ ?_
    · rw [e15]
      exact fun y => absurd ((nI_leI (b := 0) (by omega) (by omega)).mp y) (by omega)
    refine inBI 2 rfl (by decide) ?_
    refine inBI 0 rfl (by decide) ?_
    refine ifF (c := sr M 13 (inV w i c ui v k) 13 2 < sr M 13 (inV w i c ui v k) 12 0) ?_ ?_
    · rw [e2, e12]
      exact Int32.not_lt.mpr ((nI_leI (by omega) (by omega)).mpr (by omega))
    refine inBI 2 rfl (by decide) ?_
    refine inBI 0 rfl (by decide) ?_
    refine inBI 2 rfl (by decide) ?_
    refine inBI (n := 1158) (3 + i) (nI_add 3 i) (by omega) ?_
    refine inBI 0 rfl (by decide) ?_
    refine inBI (n := 1158) (3 + i) (nI_add 3 i) (by omega) ?_
    refine inBI (n := 1158) (15 + i) (nI_add 15 i) (by omega) ?_
    refine inBI (n := 1158) (15 + i) (nI_add 15 i) (by omega) ?_
    refine cast (congrArg (fun z => AW E8_shareAll d 0 n0 Q 18 [some (.ref 0), some (.ref 13), some (.int 1), some (.int (nI i)), none] [] Sm z L 0) ?_) ih
    simp only [um_sr, e12]
    congr 1
    funext j
    by_cases g15 : j = 15 + i
    · subst g15
      rw [pk_us, sr_at, pk_un (by omega), pk_un (by omega)]
      unfold inV
      rw [if_neg (by omega), if_neg (by omega), if_pos rfl, if_neg (by omega), if_neg (by omega), if_pos rfl, show (1 : Int32) = nI 1 from rfl, pk_sub (by omega)]
      congr 1
    rw [pk_un g15]
    by_cases g3 : j = 3 + i
    · subst g3
      rw [pk_us, sr_at, pk_un (by omega)]
      unfold inV
      rw [if_neg (by omega), if_pos rfl, if_neg (by omega), if_pos rfl, Int32.add_assoc, nI_add, Nat.mul_succ]
    rw [pk_un g3]
    by_cases g2 : j = 2
    · subst g2
      rw [pk_us, sr_at]
      unfold inV
      rw [if_pos rfl, if_pos rfl, pk_sub (by omega), Nat.mul_succ]
      congr 1; omega
    rw [pk_un g2]
    unfold inV
    rw [if_neg g2, if_neg g3, if_neg g15, if_neg g2, if_neg g3, if_neg g15]
theorem cm_payI15 {d n0 i w c ui : Nat} {v : Nat → Int32} {M : AM} {L : AL} {Q : QT} (hi : i < 6) (hw : M 12 0 = nI w) (hw2 : w < 2 ^ 30) (hc : c < 2 ^ 30) (hu : ui < 2 ^ 30)
    (hend : AW E8_shareAll d 0 n0 Q 78 [some (.ref 0), some (.ref 15), some (.int 1), some (.int (nI i)), none] [] Sm (sr M 15 (inV w i c ui v (pay w c ui))) L 0) : AW E8_shareAll d 0 n0 Q 18 [some (.ref 0), some (.ref 15), some (.int 1), some (.int (nI i)), none] [] Sm (sr M 15 (inV w i c ui v 0)) L 0 := by
  have e12 : ∀ f, sr M 15 f 12 0 = nI w := fun f => by rw [sr_ne _ _ (by decide), hw]
  have e2 : ∀ k, sr M 15 (inV w i c ui v k) 15 2 = nI (c - w * k) := fun k => by rw [sr_at]; rfl
  have e15 : ∀ k, sr M 15 (inV w i c ui v k) 15 (15 + i) = nI (ui - k) := fun k => by
    rw [sr_at]; unfold inV; rw [if_neg (by omega), if_neg (by omega), if_pos rfl]
  refine aw_loop (pay w c ui) (fun _ => [some (.ref 0), some (.ref 15), some (.int 1), some (.int (nI i)), none]) (fun k => sr M 15 (inV w i c ui v k)) ?_ ?_
  · refine aw_run ok8_shareAll (at2 18 78) 60 ?_
    refine inBI (n := 35) (15 + i) (nI_add 15 i) (by omega) ?_
    rcases pay_end w c ui with z | z
    · refine ifT (c := sr M 15 (inV w i c ui v (pay w c ui)) 15 (15 + i) ≤ 0) ?_ hend
      rw [e15, z]; decide
    · refine iteI (fun _ => hend) (fun _ => ?_)
      refine inBI 2 rfl (by decide) ?_
      refine inBI 0 rfl (by decide) ?_
      refine ifT (c := sr M 15 (inV w i c ui v (pay w c ui)) 15 2 < sr M 15 (inV w i c ui v (pay w c ui)) 12 0) ?_ hend
      rw [e2, e12]
      exact Int32.not_le.mp (fun y => absurd ((nI_leI (by omega) (by omega)).mp y) (by omega))
  · intro k hk ih
    obtain ⟨p1, p2⟩ := pay_step hk
    refine aw_run ok8_shareAll (at1 18) 60 ?_
    refine inBI (n := 35) (15 + i) (nI_add 15 i) (by omega) ?_
    refine ifF (c := sr M 15 (inV w i c ui v k) 15 (15 + i) ≤ 0) ?_ ?_
    · rw [e15]
      exact fun y => absurd ((nI_leI (b := 0) (by omega) (by omega)).mp y) (by omega)
    refine inBI 2 rfl (by decide) ?_
    refine inBI 0 rfl (by decide) ?_
    refine ifF (c := sr M 15 (inV w i c ui v k) 15 2 < sr M 15 (inV w i c ui v k) 12 0) ?_ ?_
    · rw [e2, e12]
      exact Int32.not_lt.mpr ((nI_leI (by omega) (by omega)).mpr (by omega))
    refine inBI 2 rfl (by decide) ?_
    refine inBI 0 rfl (by decide) ?_
    refine inBI 2 rfl (by decide) ?_
    refine inBI (n := 35) (3 + i) (nI_add 3 i) (by omega) ?_
    refine inBI 0 rfl (by decide) ?_
    refine inBI (n := 35) (3 + i) (nI_add 3 i) (by omega) ?_
    refine inBI (n := 35) (15 + i) (nI_add 15 i) (by omega) ?_
    refine inBI (n := 35) (15 + i) (nI_add 15 i) (by omega) ?_
    refine cast (congrArg (fun z => AW E8_shareAll d 0 n0 Q 18 [some (.ref 0), some (.ref 15), some (.int 1), some (.int (nI i)), none] [] Sm z L 0) ?_) ih
    simp only [um_sr, e12]
    congr 1
    funext j
    by_cases g15 : j = 15 + i
    · subst g15
      rw [pk_us, sr_at, pk_un (by omega), pk_un (by omega)]
      unfold inV
      rw [if_neg (by omega), if_neg (by omega), if_pos rfl, if_neg (by omega), if_neg (by omega), if_pos rfl, show (1 : Int32) = nI 1 from rfl, pk_sub (by omega)]
      congr 1
    rw [pk_un g15]
    by_cases g3 : j = 3 + i
    · subst g3
      rw [pk_us, sr_at, pk_un (by omega)]
      unfold inV
      rw [if_neg (by omega), if_pos rfl, if_neg (by omega), if_pos rfl, Int32.add_assoc, nI_add, Nat.mul_succ]
    rw [pk_un g3]
    by_cases g2 : j = 2
    · subst g2
      rw [pk_us, sr_at]
      unfold inV
      rw [if_pos rfl, if_pos rfl, pk_sub (by omega), Nat.mul_succ]
      congr 1; omega
    rw [pk_un g2]
    unfold inV
    rw [if_neg g2, if_neg g3, if_neg g15, if_neg g2, if_neg g3, if_neg g15]
