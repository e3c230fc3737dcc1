/-! ===== sharing ===== -/
def pay (w c u : Nat) : Nat := if w = 0 then u else min u (c / w)
theorem pay_le (w c u : Nat) : pay w c u ≤ u := by
  unfold pay; split
  · exact Nat.le_refl _
  · exact Nat.min_le_left _ _
theorem pay_mul (w c u : Nat) : w * pay w c u ≤ c := by
  unfold pay; split
  · rename_i h; subst h; rw [Nat.zero_mul]; exact Nat.zero_le _
  · exact Nat.le_trans (Nat.mul_le_mul_left _ (Nat.min_le_right _ _)) (Nat.mul_div_le _ _)
theorem pay_step {w c u k : Nat} (h : k < pay w c u) : k < u ∧ w * k + w ≤ c := by
  refine ⟨Nat.lt_of_lt_of_le h (pay_le w c u), ?_⟩
  have h1 : w * (k + 1) ≤ w * pay w c u := Nat.mul_le_mul_left _ h
  have h2 := pay_mul w c u
  rw [Nat.mul_succ] at h1
  omega
theorem pay_end (w c u : Nat) : u - pay w c u = 0 ∨ c - w * pay w c u < w := by
  unfold pay
  by_cases h : w = 0
  · rw [if_pos h]; exact Or.inl (Nat.sub_self u)
  · rw [if_neg h]
    by_cases h2 : u ≤ c / w
    · rw [Nat.min_eq_left h2]; exact Or.inl (Nat.sub_self u)
    · rw [Nat.min_eq_right (by omega)]
      right
      have := Nat.div_add_mod c w
      have := Nat.mod_lt c (Nat.pos_of_ne_zero h)
      omega
def Cn (w : Nat) (u : Nat → Nat) (ch : Nat) : Nat → Nat
  | 0 => ch
  | i + 1 => Cn w u ch i - w * pay w (Cn w u ch i) (u i)
def Pn (w : Nat) (u : Nat → Nat) (ch i : Nat) : Nat := pay w (Cn w u ch i) (u i)
theorem Cn_le (w : Nat) (u : Nat → Nat) (ch : Nat) : ∀ i, Cn w u ch i ≤ ch
  | 0 => Nat.le_refl _
  | i + 1 => Nat.le_trans (Nat.sub_le _ _) (Cn_le w u ch i)
theorem Cn_stop {w : Nat} {u : Nat → Nat} {ch i : Nat} (h : Cn w u ch i < w) : ∀ k, Cn w u ch (i + k) = Cn w u ch i ∧ Pn w u ch (i + k) = 0
  | 0 => ⟨rfl, by
    show pay _ _ _ = 0
    unfold pay
    rw [if_neg (by omega), Nat.add_zero, Nat.div_eq_of_lt h, Nat.min_zero]⟩
  | k + 1 => by
    obtain ⟨h1, h2⟩ := Cn_stop h k
    have e : Cn w u ch (i + (k + 1)) = Cn w u ch i := by
      show Cn w u ch (i + k) - w * Pn w u ch (i + k) = _
      rw [h2, h1, Nat.mul_zero, Nat.sub_zero]
    refine ⟨e, ?_⟩
    unfold Pn pay
    rw [if_neg (by omega), e, Nat.div_eq_of_lt h, Nat.min_zero]
def inV (w i c ui : Nat) (v : Nat → Int32) (k j : Nat) : Int32 := if j = 2 then nI (c - w * k) else if j = 3 + i then v j + nI (w * k) else if j = 15 + i then nI (ui - k) else v j
def payV (w : Nat) (u : Nat → Nat) (ch : Nat) (v : Nat → Int32) (i j : Nat) : Int32 := if j = 2 then nI (Cn w u ch i) else if 3 ≤ j ∧ j < 3 + i then v j + nI (w * Pn w u ch (j - 3)) else if 15 ≤ j ∧ j < 15 + i then nI (u (j - 15) - Pn w u ch (j - 15)) else v j
theorem payV_in {w : Nat} {u : Nat → Nat} {ch i : Nat} {v : Nat → Int32} (hi : i < 6) (hu : v (15 + i) = nI (u i)) : inV w i (Cn w u ch i) (u i) (payV w u ch v i) 0 = payV w u ch v i ∧ inV w i (Cn w u ch i) (u i) (payV w u ch v i) (Pn w u ch i) = payV w u ch v (i + 1) := by
  constructor
  · funext j
    unfold inV
    by_cases h2 : j = 2
    · subst h2; rw [if_pos rfl]; unfold payV; rw [if_pos rfl, Nat.mul_zero, Nat.sub_zero]
    rw [if_neg h2]
    by_cases h3 : j = 3 + i
    · rw [if_pos h3, Nat.mul_zero, nI_0, Int32.add_zero]
    rw [if_neg h3]
    by_cases h15 : j = 15 + i
    · subst h15; rw [if_pos rfl]; unfold payV; rw [if_neg (by omega), if_neg (by omega), if_neg (by omega), hu, Nat.sub_zero]
    rw [if_neg h15]
  · funext j
    unfold inV
    by_cases h2 : j = 2
    · subst h2; rw [if_pos rfl]; unfold payV; rw [if_pos rfl]; rfl
    rw [if_neg h2]
    by_cases h3 : j = 3 + i
    · subst h3
      rw [if_pos rfl]
      unfold payV
      rw [if_neg (by omega), if_neg (by omega), if_neg (by omega), if_neg (by omega), if_pos (by omega), show 3 + i - 3 = i by omega]
    rw [if_neg h3]
    by_cases h15 : j = 15 + i
    · subst h15
      rw [if_pos rfl]
      unfold payV
      rw [if_neg (by omega), if_neg (by omega), if_pos (by omega), show 15 + i - 15 = i by omega]
    rw [if_neg h15]
    unfold payV
    rw [if_neg h2, if_neg h2]
    by_cases g3 : 3 ≤ j ∧ j < 3 + i
    · rw [if_pos g3, if_pos (by omega)]
    rw [if_neg g3, if_neg (c := 3 ≤ j ∧ j < 3 + (i + 1)) (by omega)]
    by_cases g15 : 15 ≤ j ∧ j < 15 + i
    · rw [if_pos g15, if_pos (by omega)]
    rw [if_neg g15, if_neg (by omega)]
theorem payV_stop {w : Nat} {u : Nat → Nat} {ch i n : Nat} {v : Nat → Int32} (hin : i ≤ n) (n6 : n ≤ 6) (hu : ∀ h, h < n → v (15 + h) = nI (u h)) (hs : Cn w u ch i < w) : payV w u ch v n = payV w u ch v i := by
  have cs : ∀ k, i ≤ k → Cn w u ch k = Cn w u ch i ∧ Pn w u ch k = 0 := fun k hk => by
    have := Cn_stop hs (k - i)
    rw [show i + (k - i) = k by omega] at this
    exact this
  funext j
  unfold payV
  by_cases h2 : j = 2
  · rw [if_pos h2, if_pos h2, (cs n hin).1]
  rw [if_neg h2, if_neg h2]
  by_cases g3 : 3 ≤ j ∧ j < 3 + i
  · rw [if_pos g3, if_pos (by omega)]
  rw [if_neg g3]
  by_cases g3' : 3 ≤ j ∧ j < 3 + n
  · rw [if_pos g3', if_neg (c := 15 ≤ j ∧ j < 15 + i) (by omega), (cs (j - 3) (by omega)).2, Nat.mul_zero, nI_0, Int32.add_zero]
  rw [if_neg g3']
  by_cases g15 : 15 ≤ j ∧ j < 15 + i
  · rw [if_pos g15, if_pos (by omega)]
  rw [if_neg g15]
  by_cases g15' : 15 ≤ j ∧ j < 15 + n
  · have := hu (j - 15) (by omega)
    rw [show 15 + (j - 15) = j by omega] at this
    rw [if_pos g15', (cs (j - 15) (by omega)).2, Nat.sub_zero, this]
  rw [if_neg g15']
theorem payV_0 {w : Nat} {u : Nat → Nat} {ch : Nat} {v : Nat → Int32} (hc : v 2 = nI ch) : payV w u ch v 0 = v := by
  funext j
  unfold payV
  by_cases h2 : j = 2
  · subst h2; rw [if_pos rfl, hc]; rfl
  rw [if_neg h2, if_neg (by omega), if_neg (by omega)]
/-- what a sharing leaves -/
def shV (w : Nat) (u : Nat → Nat) (ch : Nat) (v : Nat → Int32) (n : Nat) (e pt : Int32) (pf : Nat → Int32) (j : Nat) : Int32 := if j = 2 then nI (Cn w u ch n) - e * pt else if 3 ≤ j ∧ j < 3 + n then payV w u ch v n j + e * pf (j - 3) else payV w u ch v n j
theorem cm_payI13 {d n0 i w c ui : Nat} {v : Nat → Int32} {M : AM} {L : AL} {Q : QT} (hi : i < 6) (hw : M 12 0 = nI w) (hw2 : w < 2 ^ 30) (hc : c < 2 ^ 30) (hu : ui < 2 ^ 30)
    (hend : AW E8_shareAll d 0 n0 Q 78 [some (.ref 0), some (.ref 13), some (.int 1), some (.int (nI i)), none] [] Sm (sr M 13 (inV w i c ui v (pay w c ui))) L 0) : AW E8_shareAll d 0 n0 Q 18 [some (.ref 0), some (.ref 13), some (.int 1), some (.int (nI i)), none] [] Sm (sr M 13 (inV w i c ui v 0)) L 0 := by
  have e12 : ∀ f, sr M 13 f 12 0 = nI w := fun f => by rw [sr_ne _ _ (by decide), hw]
  have e2 : ∀ k, sr M 13 (inV w i c ui v k) 13 2 = nI (c - w * k) := fun k => by rw [sr_at]; rfl
  have e15 : ∀ k, sr M 13 (inV w i c ui v k) 13 (15 + i) = nI (ui - k) := fun k => by
    rw [sr_at]; unfold inV; rw [if_neg (by omega), if_neg (by omega), if_pos rfl]
  refine aw_loop (pay w c ui) (fun _ => [some (.ref 0), some (.ref 13), some (.int 1), some (.int (nI i)), none]) (fun k => sr M 13 (inV w i c ui v k)) ?_ ?_
  · refine aw_run ok8_shareAll (at2 18 78) 60 ?_
    refine inBI (n := 1158) (15 + i) (nI_add 15 i) (by omega) ?_
    rcases pay_end w c ui with z | z
    · refine ifT (c := sr M 13 (inV w i c ui v (pay w c ui)) 13 (15 + i) ≤ 0) ?_ hend
      rw [e15, z]; decide
    · refine iteI (fun _ => hend) (fun _ => ?_)
      refine inBI 2 rfl (by decide) ?_
      refine inBI 0 rfl (by decide) ?_
      refine ifT (c := sr M 13 (inV w i c ui v (pay w c ui)) 13 2 < sr M 13 (inV w i c ui v (pay w c ui)) 12 0) ?_ hend
      rw [e2, e12]
      exact Int32.not_le.mp (fun y => absurd ((nI_leI (by omega) (by omega)).mp y) (by omega))
  · intro k hk ih
    obtain ⟨p1, p2⟩ := pay_step hk
    refine aw_run ok8_shareAll (at1 18) 60 ?_
    refine inBI (n := 1158) (15 + i) (nI_add 15 i) (by omega) ?_
    refine ifF (c := sr M 13 (inV w i c ui v k) 13 (15 + i) ≤ 0) ?_ ?_
    · rw [e15]
      exact fun y => absurd ((nI_leI (b := 0) (by omega) (by omega)).mp y) (by omega)
    refine inBI 2 rfl (by decide) ?_
    refine inBI 0 rfl (by decide) ?_
    refine ifF (c := sr M 13 (inV w i c ui v k) 13 2 < sr M 13 (inV w i c ui v k) 12 0) ?_ ?_
    · rw [e2, e12]
      exact Int32.not_lt.mpr ((nI_leI (by omega) (by omega)).mpr (by omega))
    refine inBI 2 rfl (by decide) ?_
    refine inBI 0 rfl (by decide) ?_
    refine inBI 2 rfl (by decide) ?_
    refine inBI (n := 1158) (3 + i) (nI_add 3 i) (by omega) ?_
    refine inBI 0 rfl (by decide) ?_
    refine inBI (n := 1158) (3 + i) (nI_add 3 i) (by omega) ?_
    refine inBI (n := 1158) (15 + i) (nI_add 15 i) (by omega) ?_
    refine inBI (n := 1158) (15 + i) (nI_add 15 i) (by omega) ?_
    refine cast (congrArg (fun z => AW E8_shareAll d 0 n0 Q 18 [some (.ref 0), some (.ref 13), some (.int 1), some (.int (nI i)), none] [] Sm z L 0) ?_) ih
    simp only [um_sr, e12]
    congr 1
    funext j
    by_cases g15 : j = 15 + i
    · subst g15
      rw [pk_us, sr_at, pk_un (by omega), pk_un (by omega)]
      unfold inV
      rw [if_neg (by omega), if_neg (by omega), if_pos rfl, if_neg (by omega), if_neg (by omega), if_pos rfl, show (1 : Int32) = nI 1 from rfl, pk_sub (by omega)]
      congr 1
    rw [pk_un g15]
    by_cases g3 : j = 3 + i
    · subst g3
      rw [pk_us, sr_at, pk_un (by omega)]
      unfold inV
      rw [if_neg (by omega), if_pos rfl, if_neg (by omega), if_pos rfl, Int32.add_assoc, nI_add, Nat.mul_succ]
    rw [pk_un g3]
    by_cases g2 : j = 2
    · subst g2
      rw [pk_us, sr_at]
      unfold inV
      rw [if_pos rfl, if_pos rfl, pk_sub (by omega), Nat.mul_succ]
      congr 1; omega
    rw [pk_un g2]
    unfold inV
    rw [if_neg g2, if_neg g3, if_neg g15, if_neg g2, if_neg g3, if_neg g15]
theorem cm_payO13 {d n0 n w ch : Nat} {u : Nat → Nat} {v : Nat → Int32} {M : AM} {L : AL} {Q : QT} (hn : M 2 0 = nI n) (n6 : n ≤ 6) (hw : M 12 0 = nI w) (hw2 : w < 2 ^ 30) (hc : ch < 2 ^ 30) (hu2 : ∀ h, h < n → u h < 2 ^ 30) (hu : ∀ h, h < n → v (15 + h) = nI (u h))
    (hend : ∀ a b, AW E8_shareAll d 0 n0 Q 99 [some (.ref 0), some (.ref 13), some (.int a), some (.int b), none] [] Sm (sr M 13 (payV w u ch v n)) L 0) : AW E8_shareAll d 0 n0 Q 4 [some (.ref 0), some (.ref 13), some (.int 1), some (.int (nI 0)), none] [] Sm (sr M 13 (payV w u ch v 0)) L 0 := by
  have e2 : ∀ f, sr M 13 f 2 0 = nI n := fun f => by rw [sr_ne _ _ (by decide), hn]
  refine aw_loop n (fun i => [some (.ref 0), some (.ref 13), some (.int 1), some (.int (nI i)), none]) (fun i => sr M 13 (payV w u ch v i)) ?_ ?_
  · refine aw_run ok8_shareAll (at2 4 99) 60 ?_
    refine inBI 0 rfl (by decide) ?_
    refine ifT (c := sr M 13 (payV w u ch v n) 2 0 ≤ nI n) (by rw [e2]; exact Int32.le_refl _) ?_
    exact hend 1 (nI n)
  · intro i hi ih
    have pin := payV_in (w := w) (u := u) (ch := ch) (v := v) (i := i) (by omega) (hu i hi)
    have hci := Cn_le w u ch i
    refine aw_run ok8_shareAll (at2 4 18) 60 ?_
    refine inBI 0 rfl (by decide) ?_
    refine ifF (c := sr M 13 (payV w u ch v i) 2 0 ≤ nI i) (by rw [e2]; exact nI_ge hi (by omega)) ?_
    have key : AW E8_shareAll d 0 n0 Q 18 [some (.ref 0), some (.ref 13), some (.int 1), some (.int (nI i)), none] [] Sm (sr M 13 (inV w i (Cn w u ch i) (u i) (payV w u ch v i) 0)) L 0 := by
      refine cm_payI13 (by omega) hw hw2 (by omega) (hu2 i hi) ?_
      show AW E8_shareAll d 0 n0 Q 78 _ [] Sm (sr M 13 (inV w i (Cn w u ch i) (u i) (payV w u ch v i) (Pn w u ch i))) L 0
      rw [pin.2]
      have e15 : sr M 13 (payV w u ch v (i + 1)) 13 (15 + i) = nI (u i - Pn w u ch i) := by
        rw [sr_at]; unfold payV; rw [if_neg (by omega), if_neg (by omega), if_pos (by omega), show 15 + i - 15 = i by omega]
      have hui := hu2 i hi
      refine aw_run ok8_shareAll (at1 4) 60 ?_
      refine inBI (n := 1158) (15 + i) (nI_add 15 i) (by omega) ?_
      by_cases z : u i - Pn w u ch i = 0
      · rw [nI_succ] at ih
        refine ifT (c := sr M 13 (payV w u ch v (i + 1)) 13 (15 + i) = 0) (by rw [e15, z]; rfl) ?_
        exact ih
      · refine ifF (c := sr M 13 (payV w u ch v (i + 1)) 13 (15 + i) = 0) ?_ ?_
        · rw [e15]
          exact fun y => z ((nI_eq (b := 0) (by omega) (by omega)).mp y)
        have hst : Cn w u ch (i + 1) < w := (pay_end w (Cn w u ch i) (u i)).resolve_left z
        have hend2 := hend 0 (nI i + 1)
        rw [payV_stop (i := i + 1) (by omega) n6 hu hst] at hend2
        have h4 : AW E8_shareAll d 0 n0 Q 4 [some (.ref 0), some (.ref 13), some (.int 0), some (.int (nI i + 1)), none] [] Sm (sr M 13 (payV w u ch v (i + 1))) L 0 := by
          refine aw_run ok8_shareAll (at2 4 99) 60 ?_
          refine inBI 0 rfl (by decide) ?_
          exact iteI (fun _ => hend2) (fun _ => hend2)
        exact h4
    rw [pin.1] at key
    exact key
theorem cm_shareAll13 {d n w ch : Nat} {u : Nat → Nat} {M : AM} {L : AL} {Q : QT} (hn : M 2 0 = nI n) (n6 : n ≤ 6) (hw : M 12 0 = nI w) (hw2 : w < 2 ^ 30) (hc : ch < 2 ^ 30) (hcv : M 13 2 = nI ch) (hu2 : ∀ h, h < n → u h < 2 ^ 30) (hu : ∀ h, h < n → M 13 (15 + h) = nI (u h))
    {pt e : Int32} (hpt : sumTo (fPart (M 13 0) (M 13 1) (M 3)) n = pt) (hp0 : ¬ pt = 0) (he : nI (Cn w u ch n) / pt = e)
    (hq : Q (some (.int e)) Sm (sr M 13 (shV w u ch (M 13) n e pt (fPart (M 13 0) (M 13 1) (M 3)))) L) : CW E8_shareAll (d + 3) 0 [.ref 0, .ref 13] Sm M L Q := by
  have e2 : ∀ f, sr M 13 f 2 0 = nI n := fun f => by rw [sr_ne _ _ (by decide), hn]
  have e3 : ∀ f, sr M 13 f 3 = M 3 := fun f => sr_ne _ _ (by decide)
  have key : AW E8_shareAll (d + 3) 0 Sm.length Q 4 [some (.ref 0), some (.ref 13), some (.int 1), some (.int (nI 0)), none] [] Sm (sr M 13 (payV w u ch (M 13) 0)) L 0 := by
    refine cm_payO13 hn n6 hw hw2 hc hu2 hu (fun a b => ?_)
    generalize hpv : payV w u ch (M 13) n = pv
    have q0 : pv 0 = M 13 0 := by subst hpv; rfl
    have q1 : pv 1 = M 13 1 := by subst hpv; rfl
    have q2 : pv 2 = nI (Cn w u ch n) := by subst hpv; rfl
    refine aw_run ok8_shareAll (at1 112) 60 ?_
    refine inBI 2 rfl (by decide) ?_
    refine cm_parts (r := 13) (Or.inl rfl) (e2 _) n6 ?_
    rw [sr_at, e3, q0, q1, hpt]
    refine ifF hp0 ?_
    have loop : AW E8_shareAll (d + 3) 0 Sm.length Q 112 [some (.ref 0), some (.ref 13), some (.int a), some (.int e), some (.int (nI 0))] [] Sm (sr M 13 (fun j => if 3 ≤ j ∧ j < 3 + 0 then pv j + e * fPart (M 13 0) (M 13 1) (M 3) (j - 3) else pv j)) L 0 := by
      refine aw_loop n (fun i => [some (.ref 0), some (.ref 13), some (.int a), some (.int e), some (.int (nI i))]) (fun i => sr M 13 (fun j => if 3 ≤ j ∧ j < 3 + i then pv j + e * fPart (M 13 0) (M 13 1) (M 3) (j - 3) else pv j)) ?_ ?_
      · generalize hf : (fun j => if 3 ≤ j ∧ j < 3 + n then pv j + e * fPart (M 13 0) (M 13 1) (M 3) (j - 3) else pv j) = f
        have f0 : f 0 = M 13 0 := by subst hf; exact q0
        have f1 : f 1 = M 13 1 := by subst hf; exact q1
        have f2 : f 2 = nI (Cn w u ch n) := by subst hf; exact q2
        refine aw_run ok8_shareAll (at1 112) 60 ?_
        refine inBI 0 rfl (by decide) ?_
        refine ifT (c := sr M 13 f 2 0 ≤ nI n) (by rw [e2]; exact Int32.le_refl _) ?_
        refine inBI 2 rfl (by decide) ?_
        refine cm_parts (r := 13) (Or.inl rfl) (e2 _) n6 ?_
        rw [sr_at, e3, f0, f1, hpt]
        refine inBI 2 rfl (by decide) ?_
        refine cast (congrArg (fun z => Q (some (.int e)) Sm z L) ?_) hq
        rw [um_sr]
        congr 1
        funext j
        unfold shV
        by_cases h2 : j = 2
        · subst h2; rw [if_pos rfl, pk_us, f2]
        · rw [if_neg h2, pk_un h2, hpv, ← hf]
      · intro i hi ih
        rw [nI_succ] at ih
        generalize hf : (fun j => if 3 ≤ j ∧ j < 3 + i then pv j + e * fPart (M 13 0) (M 13 1) (M 3) (j - 3) else pv j) = f
        have f0 : f 0 = M 13 0 := by subst hf; exact q0
        have f1 : f 1 = M 13 1 := by subst hf; exact q1
        have f3 : f (3 + i) = pv (3 + i) := by subst hf; exact if_neg (by omega)
        refine aw_run ok8_shareAll (at1 112) 60 ?_
        refine inBI 0 rfl (by decide) ?_
        refine ifF (c := sr M 13 f 2 0 ≤ nI i) (by rw [e2]; exact nI_ge hi (by omega)) ?_
        refine inBI (n := 1158) (3 + i) (nI_add 3 i) (by omega) ?_
        refine cm_part (r := 13) (Or.inl rfl) (by omega) ?_
        rw [sr_at, e3, f0, f1]
        refine inBI (n := 1158) (3 + i) (nI_add 3 i) (by omega) ?_
        refine cast (congrArg (fun z => AW E8_shareAll (d + 3) 0 Sm.length Q 112 [some (.ref 0), some (.ref 13), some (.int a), some (.int e), some (.int (nI i + 1))] [] Sm z L 0) ?_) ih
        rw [um_sr]
        congr 1
        funext j
        by_cases h3 : j = 3 + i
        · subst h3
          rw [if_pos (by omega), pk_us, f3, show 3 + i - 3 = i by omega]
          rfl
        · rw [pk_un h3, ← hf]
          dsimp only
          by_cases g3 : 3 ≤ j ∧ j < 3 + i
          · rw [if_pos g3, if_pos (by omega)]
          · rw [if_neg g3, if_neg (by omega)]
    have e0 : (fun j => if 3 ≤ j ∧ j < 3 + 0 then pv j + e * fPart (M 13 0) (M 13 1) (M 3) (j - 3) else pv j) = pv := by
      funext j; rw [if_neg (by omega)]
    rw [e0] at loop
    rw [← q2] at he
    rw [← he] at loop
    exact loop
  rw [payV_0 hcv, sr_self] at key
  refine cw_ent ok8_shareAll (at1 4) 60 ?_
  exact key
theorem cm_payI15 {d n0 i w c ui : Nat} {v : Nat → Int32} {M : AM} {L : AL} {Q : QT} (hi : i < 6) (hw : M 12 0 = nI w) (hw2 : w < 2 ^ 30) (hc : c < 2 ^ 30) (hu : ui < 2 ^ 30)
    (hend : AW E8_shareAll d 0 n0 Q 78 [some (.ref 0), some (.ref 15), some (.int 1), some (.int (nI i)), none] [] Sm (sr M 15 (inV w i c ui v (pay w c ui))) L 0) : AW E8_shareAll d 0 n0 Q 18 [some (.ref 0), some (.ref 15), some (.int 1), some (.int (nI i)), none] [] Sm (sr M 15 (inV w i c ui v 0)) L 0 := by
  have e12 : ∀ f, sr M 15 f 12 0 = nI w := fun f => by rw [sr_ne _ _ (by decide), hw]
  have e2 : ∀ k, sr M 15 (inV w i c ui v k) 15 2 = nI (c - w * k) := fun k => by rw [sr_at]; rfl
  have e15 : ∀ k, sr M 15 (inV w i c ui v k) 15 (15 + i) = nI (ui - k) := fun k => by
    rw [sr_at]; unfold inV; rw [if_neg (by omega), if_neg (by omega), if_pos rfl]
  refine aw_loop (pay w c ui) (fun _ => [some (.ref 0), some (.ref 15), some (.int 1), some (.int (nI i)), none]) (fun k => sr M 15 (inV w i c ui v k)) ?_ ?_
  · refine aw_run ok8_shareAll (at2 18 78) 60 ?_
    refine inBI (n := 35) (15 + i) (nI_add 15 i) (by omega) ?_
    rcases pay_end w c ui with z | z
    · refine ifT (c := sr M 15 (inV w i c ui v (pay w c ui)) 15 (15 + i) ≤ 0) ?_ hend
      rw [e15, z]; decide
    · refine iteI (fun _ => hend) (fun _ => ?_)
      refine inBI 2 rfl (by decide) ?_
      refine inBI 0 rfl (by decide) ?_
      refine ifT (c := sr M 15 (inV w i c ui v (pay w c ui)) 15 2 < sr M 15 (inV w i c ui v (pay w c ui)) 12 0) ?_ hend
      rw [e2, e12]
      exact Int32.not_le.mp (fun y => absurd ((nI_leI (by omega) (by omega)).mp y) (by omega))
  · intro k hk ih
    obtain ⟨p1, p2⟩ := pay_step hk
    refine aw_run ok8_shareAll (at1 18) 60 ?_
    refine inBI (n := 35) (15 + i) (nI_add 15 i) (by omega) ?_
    refine ifF (c := sr M 15 (inV w i c ui v k) 15 (15 + i) ≤ 0) ?_ ?_
    · rw [e15]
      exact fun y => absurd ((nI_leI (b := 0) (by omega) (by omega)).mp y) (by omega)
    refine inBI 2 rfl (by decide) ?_
    refine inBI 0 rfl (by decide) ?_
    refine ifF (c := sr M 15 (inV w i c ui v k) 15 2 < sr M 15 (inV w i c ui v k) 12 0) ?_ ?_
    · rw [e2, e12]
      exact Int32.not_lt.mpr ((nI_leI (by omega) (by omega)).mpr (by omega))
    refine inBI 2 rfl (by decide) ?_
    refine inBI 0 rfl (by decide) ?_
    refine inBI 2 rfl (by decide) ?_
    refine inBI (n := 35) (3 + i) (nI_add 3 i) (by omega) ?_
    refine inBI 0 rfl (by decide) ?_
    refine inBI (n := 35) (3 + i) (nI_add 3 i) (by omega) ?_
    refine inBI (n := 35) (15 + i) (nI_add 15 i) (by omega) ?_
    refine inBI (n := 35) (15 + i) (nI_add 15 i) (by omega) ?_
    refine cast (congrArg (fun z => AW E8_shareAll d 0 n0 Q 18 [some (.ref 0), some (.ref 15), some (.int 1), some (.int (nI i)), none] [] Sm z L 0) ?_) ih
    simp only [um_sr, e12]
    congr 1
    funext j
    by_cases g15 : j = 15 + i
    · subst g15
      rw [pk_us, sr_at, pk_un (by omega), pk_un (by omega)]
      unfold inV
      rw [if_neg (by omega), if_neg (by omega), if_pos rfl, if_neg (by omega), if_neg (by omega), if_pos rfl, show (1 : Int32) = nI 1 from rfl, pk_sub (by omega)]
      congr 1
    rw [pk_un g15]
    by_cases g3 : j = 3 + i
    · subst g3
      rw [pk_us, sr_at, pk_un (by omega)]
      unfold inV
      rw [if_neg (by omega), if_pos rfl, if_neg (by omega), if_pos rfl, Int32.add_assoc, nI_add, Nat.mul_succ]
    rw [pk_un g3]
    by_cases g2 : j = 2
    · subst g2
      rw [pk_us, sr_at]
      unfold inV
      rw [if_pos rfl, if_pos rfl, pk_sub (by omega), Nat.mul_succ]
      congr 1; omega
    rw [pk_un g2]
    unfold inV
    rw [if_neg g2, if_neg g3, if_neg g15, if_neg g2, if_neg g3, if_neg g15]
theorem cm_payO15 {d n0 n w ch : Nat} {u : Nat → Nat} {v : Nat → Int32} {M : AM} {L : AL} {Q : QT} (hn : M 2 0 = nI n) (n6 : n ≤ 6) (hw : M 12 0 = nI w) (hw2 : w < 2 ^ 30) (hc : ch < 2 ^ 30) (hu2 : ∀ h, h < n → u h < 2 ^ 30) (hu : ∀ h, h < n → v (15 + h) = nI (u h))
    (hend : ∀ a b, AW E8_shareAll d 0 n0 Q 99 [some (.ref 0), some (.ref 15), some (.int a), some (.int b), none] [] Sm (sr M 15 (payV w u ch v n)) L 0) : AW E8_shareAll d 0 n0 Q 4 [some (.ref 0), some (.ref 15), some (.int 1), some (.int (nI 0)), none] [] Sm (sr M 15 (payV w u ch v 0)) L 0 := by
  have e2 : ∀ f, sr M 15 f 2 0 = nI n := fun f => by rw [sr_ne _ _ (by decide), hn]
  refine aw_loop n (fun i => [some (.ref 0), some (.ref 15), some (.int 1), some (.int (nI i)), none]) (fun i => sr M 15 (payV w u ch v i)) ?_ ?_
  · refine aw_run ok8_shareAll (at2 4 99) 60 ?_
    refine inBI 0 rfl (by decide) ?_
    refine ifT (c := sr M 15 (payV w u ch v n) 2 0 ≤ nI n) (by rw [e2]; exact Int32.le_refl _) ?_
    exact hend 1 (nI n)
  · intro i hi ih
    have pin := payV_in (w := w) (u := u) (ch := ch) (v := v) (i := i) (by omega) (hu i hi)
    have hci := Cn_le w u ch i
    refine aw_run ok8_shareAll (at2 4 18) 60 ?_
    refine inBI 0 rfl (by decide) ?_
    refine ifF (c := sr M 15 (payV w u ch v i) 2 0 ≤ nI i) (by rw [e2]; exact nI_ge hi (by omega)) ?_
    have key : AW E8_shareAll d 0 n0 Q 18 [some (.ref 0), some (.ref 15), some (.int 1), some (.int (nI i)), none] [] Sm (sr M 15 (inV w i (Cn w u ch i) (u i) (payV w u ch v i) 0)) L 0 := by
      refine cm_payI15 (by omega) hw hw2 (by omega) (hu2 i hi) ?_
      show AW E8_shareAll d 0 n0 Q 78 _ [] Sm (sr M 15 (inV w i (Cn w u ch i) (u i) (payV w u ch v i) (Pn w u ch i))) L 0
      rw [pin.2]
      have e15 : sr M 15 (payV w u ch v (i + 1)) 15 (15 + i) = nI (u i - Pn w u ch i) := by
        rw [sr_at]; unfold payV; rw [if_neg (by omega), if_neg (by omega), if_pos (by omega), show 15 + i - 15 = i by omega]
      have hui := hu2 i hi
      refine aw_run ok8_shareAll (at1 4) 60 ?_
      refine inBI (n := 35) (15 + i) (nI_add 15 i) (by omega) ?_
      by_cases z : u i - Pn w u ch i = 0
      · rw [nI_succ] at ih
        refine ifT (c := sr M 15 (payV w u ch v (i + 1)) 15 (15 + i) = 0) (by rw [e15, z]; rfl) ?_
        exact ih
      · refine ifF (c := sr M 15 (payV w u ch v (i + 1)) 15 (15 + i) = 0) ?_ ?_
        · rw [e15]
          exact fun y => z ((nI_eq (b := 0) (by omega) (by omega)).mp y)
        have hst : Cn w u ch (i + 1) < w := (pay_end w (Cn w u ch i) (u i)).resolve_left z
        have hend2 := hend 0 (nI i + 1)
        rw [payV_stop (i := i + 1) (by omega) n6 hu hst] at hend2
        have h4 : AW E8_shareAll d 0 n0 Q 4 [some (.ref 0), some (.ref 15), some (.int 0), some (.int (nI i + 1)), none] [] Sm (sr M 15 (payV w u ch v (i + 1))) L 0 := by
          refine aw_run ok8_shareAll (at2 4 99) 60 ?_
          refine inBI 0 rfl (by decide) ?_
          exact iteI (fun _ => hend2) (fun _ => hend2)
        exact h4
    rw [pin.1] at key
    exact key
theorem cm_shareAll15 {d n w ch : Nat} {u : Nat → Nat} {M : AM} {L : AL} {Q : QT} (hn : M 2 0 = nI n) (n6 : n ≤ 6) (hw : M 12 0 = nI w) (hw2 : w < 2 ^ 30) (hc : ch < 2 ^ 30) (hcv : M 15 2 = nI ch) (hu2 : ∀ h, h < n → u h < 2 ^ 30) (hu : ∀ h, h < n → M 15 (15 + h) = nI (u h))
    {pt e : Int32} (hpt : sumTo (fPart (M 15 0) (M 15 1) (M 3)) n = pt) (hp0 : ¬ pt = 0) (he : nI (Cn w u ch n) / pt = e)
    (hq : Q (some (.int e)) Sm (sr M 15 (shV w u ch (M 15) n e pt (fPart (M 15 0) (M 15 1) (M 3)))) L) : CW E8_shareAll (d + 3) 0 [.ref 0, .ref 15] Sm M L Q := by
  have e2 : ∀ f, sr M 15 f 2 0 = nI n := fun f => by rw [sr_ne _ _ (by decide), hn]
  have e3 : ∀ f, sr M 15 f 3 = M 3 := fun f => sr_ne _ _ (by decide)
  have key : AW E8_shareAll (d + 3) 0 Sm.length Q 4 [some (.ref 0), some (.ref 15), some (.int 1), some (.int (nI 0)), none] [] Sm (sr M 15 (payV w u ch (M 15) 0)) L 0 := by
    refine cm_payO15 hn n6 hw hw2 hc hu2 hu (fun a b => ?_)
    generalize hpv : payV w u ch (M 15) n = pv
    have q0 : pv 0 = M 15 0 := by subst hpv; rfl
    have q1 : pv 1 = M 15 1 := by subst hpv; rfl
    have q2 : pv 2 = nI (Cn w u ch n) := by subst hpv; rfl
    refine aw_run ok8_shareAll (at1 112) 60 ?_
    refine inBI 2 rfl (by decide) ?_
    refine cm_parts (r := 15) (Or.inr rfl) (e2 _) n6 ?_
    rw [sr_at, e3, q0, q1, hpt]
    refine ifF hp0 ?_
    have loop : AW E8_shareAll (d + 3) 0 Sm.length Q 112 [some (.ref 0), some (.ref 15), some (.int a), some (.int e), some (.int (nI 0))] [] Sm (sr M 15 (fun j => if 3 ≤ j ∧ j < 3 + 0 then pv j + e * fPart (M 15 0) (M 15 1) (M 3) (j - 3) else pv j)) L 0 := by
      refine aw_loop n (fun i => [some (.ref 0), some (.ref 15), some (.int a), some (.int e), some (.int (nI i))]) (fun i => sr M 15 (fun j => if 3 ≤ j ∧ j < 3 + i then pv j + e * fPart (M 15 0) (M 15 1) (M 3) (j - 3) else pv j)) ?_ ?_
      · generalize hf : (fun j => if 3 ≤ j ∧ j < 3 + n then pv j + e * fPart (M 15 0) (M 15 1) (M 3) (j - 3) else pv j) = f
        have f0 : f 0 = M 15 0 := by subst hf; exact q0
        have f1 : f 1 = M 15 1 := by subst hf; exact q1
        have f2 : f 2 = nI (Cn w u ch n) := by subst hf; exact q2
        refine aw_run ok8_shareAll (at1 112) 60 ?_
        refine inBI 0 rfl (by decide) ?_
        refine ifT (c := sr M 15 f 2 0 ≤ nI n) (by rw [e2]; exact Int32.le_refl _) ?_
        refine inBI 2 rfl (by decide) ?_
        refine cm_parts (r := 15) (Or.inr rfl) (e2 _) n6 ?_
        rw [sr_at, e3, f0, f1, hpt]
        refine inBI 2 rfl (by decide) ?_
        refine cast (congrArg (fun z => Q (some (.int e)) Sm z L) ?_) hq
        rw [um_sr]
        congr 1
        funext j
        unfold shV
        by_cases h2 : j = 2
        · subst h2; rw [if_pos rfl, pk_us, f2]
        · rw [if_neg h2, pk_un h2, hpv, ← hf]
      · intro i hi ih
        rw [nI_succ] at ih
        generalize hf : (fun j => if 3 ≤ j ∧ j < 3 + i then pv j + e * fPart (M 15 0) (M 15 1) (M 3) (j - 3) else pv j) = f
        have f0 : f 0 = M 15 0 := by subst hf; exact q0
        have f1 : f 1 = M 15 1 := by subst hf; exact q1
        have f3 : f (3 + i) = pv (3 + i) := by subst hf; exact if_neg (by omega)
        refine aw_run ok8_shareAll (at1 112) 60 ?_
        refine inBI 0 rfl (by decide) ?_
        refine ifF (c := sr M 15 f 2 0 ≤ nI i) (by rw [e2]; exact nI_ge hi (by omega)) ?_
        refine inBI (n := 35) (3 + i) (nI_add 3 i) (by omega) ?_
        refine cm_part (r := 15) (Or.inr rfl) (by omega) ?_
        rw [sr_at, e3, f0, f1]
        refine inBI (n := 35) (3 + i) (nI_add 3 i) (by omega) ?_
        refine cast (congrArg (fun z => AW E8_shareAll (d + 3) 0 Sm.length Q 112 [some (.ref 0), some (.ref 15), some (.int a), some (.int e), some (.int (nI i + 1))] [] Sm z L 0) ?_) ih
        rw [um_sr]
        congr 1
        funext j
        by_cases h3 : j = 3 + i
        · subst h3
          rw [if_pos (by omega), pk_us, f3, show 3 + i - 3 = i by omega]
          rfl
        · rw [pk_un h3, ← hf]
          dsimp only
          by_cases g3 : 3 ≤ j ∧ j < 3 + i
          · rw [if_pos g3, if_pos (by omega)]
          · rw [if_neg g3, if_neg (by omega)]
    have e0 : (fun j => if 3 ≤ j ∧ j < 3 + 0 then pv j + e * fPart (M 15 0) (M 15 1) (M 3) (j - 3) else pv j) = pv := by
      funext j; rw [if_neg (by omega)]
    rw [e0] at loop
    rw [← q2] at he
    rw [← he] at loop
    exact loop
  rw [payV_0 hcv, sr_self] at key
  refine cw_ent ok8_shareAll (at1 4) 60 ?_
  exact key
