/-! ===== the model: text, reads, deeds without sharing ===== -/
def sr (M : AM) (l : Nat) (g : Nat → Int32) : AM := fun k => bif Nat.beq k l then g else M k
theorem sr_at (M : AM) (l : Nat) (g : Nat → Int32) : sr M l g l = g := by
  unfold sr; rw [show Nat.beq l l = true from Nat.beq_refl l]; rfl
theorem sr_ne (M : AM) {l k : Nat} (g : Nat → Int32) (h : k ≠ l) : sr M l g k = M k := by
  unfold sr; rw [nbeq_ne h]; rfl
theorem sr_self (M : AM) (l : Nat) : sr M l (M l) = M := by
  funext k
  by_cases h : k = l
  · subst h; rw [sr_at]
  · rw [sr_ne _ _ h]
theorem um_sr (M : AM) (l j : Nat) (g : Nat → Int32) (v : Int32) : um (sr M l g) l j v = sr M l (upd g j v) := by
  funext k
  by_cases h : k = l
  · subst h
    rw [um_at, sr_at, sr_at]
    funext j'
    by_cases hj : j' = j
    · subst hj; rw [show Nat.beq j' j' = true from Nat.beq_refl j']; simp [upd]
    · rw [nbeq_ne hj]; simp [upd, hj]
  · rw [um_ne _ _ _ h, sr_ne _ _ h, sr_ne _ _ h]
theorem um_eq_sr (M : AM) (l j : Nat) (v : Int32) : um M l j v = sr M l (upd (M l) j v) := by
  rw [← um_sr, sr_self]
theorem cm_type {d t : Nat} {c : Int32} {M : AM} {L : AL} {Q : QT} (ht : M 0 2 = nI t) (ht2 : t ≤ 150) (h1 : fIn c 0 255 = 0 → Q (some (.int (-1))) Sm M L) (h2 : ¬ fIn c 0 255 = 0 → t = 150 → Q (some (.int (-3))) Sm M L)
    (h3 : ¬ fIn c 0 255 = 0 → t < 150 → Q (some (.int (M 0 2 + 1))) Sm (um (um M 1 t (vp_nar .byte c.toInt8.toInt32)) 0 2 (M 0 2 + 1)) L) : CW E8_type (d + 1) 0 [.ref 0, .int c] Sm M L Q := by
  refine cw_ent ok8_type noStop 60 ?_
  refine cm_in ?_
  refine iteI (fun e => h1 e) (fun e => ?_)
  refine iteI (fun (e2 : M 0 2 = 150) => ?_) (fun (e2 : ¬ M 0 2 = 150) => ?_)
  · refine h2 e ?_
    rw [ht] at e2
    exact (nI_eq (by omega) (by decide)).mp (e2.trans (show (150 : Int32) = nI 150 from rfl))
  · have hlt : t < 150 := by
      rcases Nat.lt_or_ge t 150 with g | g
      · exact g
      · exact absurd (by rw [ht, show t = 150 by omega]; rfl) e2
    exact inBI (n := 150) t ht hlt (h3 e hlt)
theorem cm_clear {d : Nat} {M : AM} {L : AL} {Q : QT} (h : Q (some (.int (M 0 2))) Sm (um M 0 2 0) L) : CW E8_clear d 0 [.ref 0] Sm M L Q := by
  refine cw_ent ok8_clear noStop 60 ?_
  exact h
theorem cm_forget {d : Nat} {M : AM} {L : AL} {Q : QT} (h : Q (some (.int (M 0 29))) Sm (um M 0 29 0) L) : CW E8_forget d 0 [.ref 0] Sm M L Q := by
  refine cw_ent ok8_forget noStop 60 ?_
  exact h
theorem cm_trace {d : Nat} {M : AM} {L : AL} {Q : QT} (h : Q (some (.long (L 0 0))) Sm M L) : CW E8_trace d 0 [.ref 0] Sm M L Q := by
  refine cw_ent ok8_trace noStop 60 ?_
  exact h
theorem cm_piece {d n : Nat} {p : Int32} {M : AM} {L : AL} {Q : QT} (hn : M 10 0 = nI n) (hn5 : n ≤ 5) (h1 : (p < 0 ∨ nI n ≤ p) → Q (some (.int (-1))) Sm M L) (h2 : ∀ j, j < n → p = nI j → Q (some (.int (M 11 j))) Sm M L) : CW E8_piece (d + 1) 0 [.ref 0, .int p] Sm M L Q := by
  refine cw_ent ok8_piece noStop 60 ?_
  refine inBI 0 rfl (by decide) ?_
  refine cm_in ?_
  rcases fIn_ix p (n := n) (by omega) with ⟨g1, g2⟩ | ⟨j, g1, g2, g3⟩
  · exact ifT (by rw [hn]; exact g1) (h1 g2)
  · refine ifF (by rw [hn, g3]; decide) ?_
    exact inBI (n := 10) j g2 (by omega) (h2 j g1 g2)
/-- what hand() says of a hand there is -/
def fHand (M : AM) (j : Nat) (w : Int32) : Int32 := if w = 0 then M 3 j else if w = 1 then M 4 j else if w = 2 then M 5 j else if w = 3 then M 6 j else if w = 4 then fAb (M 13 0) (nI j) else if w = 5 then M 13 (3 + j) else if w = 6 then M 13 (9 + j) else if w = 7 then M 13 (15 + j) else if w = 8 then M 13 (21 + j) else if w = 9 then M 13 (27 + j) else -1
theorem cm_hand {d n : Nat} {h w : Int32} {M : AM} {L : AL} {Q : QT} (hn : M 2 0 = nI n) (hn6 : n ≤ 6) (h1 : (h < 0 ∨ nI n ≤ h) → Q (some (.int (-1))) Sm M L) (h2 : ∀ j, j < n → h = nI j → Q (some (.int (fHand M j w))) Sm M L) : CW E8_hand (d + 2) 0 [.ref 0, .int h, .int w] Sm M L Q := by
  refine cw_ent ok8_hand noStop 60 ?_
  refine cm_isHand ?_
  rcases fIn_ix h (n := n) (by omega) with ⟨g1, g2⟩ | ⟨j, g1, g2, g3⟩
  · exact ifT (by rw [hn]; exact g1) (h1 g2)
  · refine ifF (by rw [hn, g3]; decide) ?_
    have hq := h2 j g1 g2
    unfold fHand at hq
    refine iteI (fun e => ?_) (fun e => ?_)
    · rw [if_pos e] at hq
      exact inBI (n := 12) j g2 (by omega) hq
    rw [if_neg e] at hq
    refine iteI (fun e => ?_) (fun e => ?_)
    · rw [if_pos e] at hq
      exact inBI (n := 12) j g2 (by omega) hq
    rw [if_neg e] at hq
    refine iteI (fun e => ?_) (fun e => ?_)
    · rw [if_pos e] at hq
      exact inBI (n := 12) j g2 (by omega) hq
    rw [if_neg e] at hq
    refine iteI (fun e => ?_) (fun e => ?_)
    · rw [if_pos e] at hq
      exact inBI (n := 12) j g2 (by omega) hq
    rw [if_neg e] at hq
    refine iteI (fun e => ?_) (fun e => ?_)
    · rw [if_pos e] at hq
      refine cm_isAboard (Or.inl rfl) ?_
      rw [← g2] at hq
      rcases fAb_01 (M 13 0) h with z | z
      · rw [z] at hq
        exact ifT z hq
      · rw [z] at hq
        exact ifF (by rw [z]; decide) hq
    rw [if_neg e] at hq
    refine iteI (fun e => ?_) (fun e => ?_)
    · rw [if_pos e] at hq
      exact inBI (n := 1158) (3 + j) (by rw [g2]; exact nI_add 3 j) (by omega) hq
    rw [if_neg e] at hq
    refine iteI (fun e => ?_) (fun e => ?_)
    · rw [if_pos e] at hq
      exact inBI (n := 1158) (9 + j) (by rw [g2]; exact nI_add 9 j) (by omega) hq
    rw [if_neg e] at hq
    refine iteI (fun e => ?_) (fun e => ?_)
    · rw [if_pos e] at hq
      exact inBI (n := 1158) (15 + j) (by rw [g2]; exact nI_add 15 j) (by omega) hq
    rw [if_neg e] at hq
    refine iteI (fun e => ?_) (fun e => ?_)
    · rw [if_pos e] at hq
      exact inBI (n := 1158) (21 + j) (by rw [g2]; exact nI_add 21 j) (by omega) hq
    rw [if_neg e] at hq
    refine iteI (fun e => ?_) (fun e => ?_)
    · rw [if_pos e] at hq
      exact inBI (n := 1158) (27 + j) (by rw [g2]; exact nI_add 27 j) (by omega) hq
    rw [if_neg e] at hq
    exact hq
def fCount (M : AM) (w : Int32) : Int32 := if w = 0 then M 2 0 else if w = 1 then M 7 0 else if w = 2 then M 10 0 else if w = 3 then M 12 0 else if w = 4 then M 0 29 else if w = 5 then M 13 35 else if w = 6 then M 0 2 else -1
theorem cm_count {d : Nat} {w : Int32} {M : AM} {L : AL} {Q : QT} (hq : Q (some (.int (fCount M w))) Sm M L) : CW E8_count d 0 [.ref 0, .int w] Sm M L Q := by
  refine cw_ent ok8_count noStop 60 ?_
  unfold fCount at hq
  refine iteI (fun e => ?_) (fun e => ?_)
  · rw [if_pos e] at hq
    exact inBI 0 rfl (by decide) hq
  rw [if_neg e] at hq
  refine iteI (fun e => ?_) (fun e => ?_)
  · rw [if_pos e] at hq
    exact inBI 0 rfl (by decide) hq
  rw [if_neg e] at hq
  refine iteI (fun e => ?_) (fun e => ?_)
  · rw [if_pos e] at hq
    exact inBI 0 rfl (by decide) hq
  rw [if_neg e] at hq
  refine iteI (fun e => ?_) (fun e => ?_)
  · rw [if_pos e] at hq
    exact inBI 0 rfl (by decide) hq
  rw [if_neg e] at hq
  refine iteI (fun e => ?_) (fun e => ?_)
  · rw [if_pos e] at hq
    exact hq
  rw [if_neg e] at hq
  refine iteI (fun e => ?_) (fun e => ?_)
  · rw [if_pos e] at hq
    exact inBI 35 rfl (by decide) hq
  rw [if_neg e] at hq
  refine iteI (fun e => ?_) (fun e => ?_)
  · rw [if_pos e] at hq
    exact hq
  rw [if_neg e] at hq
  exact hq
/-- know(): the vector goes to what is known -/
def knowV (v : Nat → Int32) (k : Nat) (j : Nat) : Int32 := if j = 35 then (if k = 10 then nI 10 else nI (k + 1)) else if k = 10 then (if 36 ≤ j ∧ j < 351 then v (j + 35) else if 351 ≤ j ∧ j < 386 then v (j - 351) else v j) else if 36 + 35 * k ≤ j ∧ j < 71 + 35 * k then v (j - (36 + 35 * k)) else v j
theorem cm_know2 {d n0 k : Nat} {v1 : Option Value} {M : AM} {L : AL} {Q : QT} {g : Nat → Int32} (hk : g 35 = nI k) (hk9 : k < 10) (hq : Q none Sm (sr M 13 (fun j => if j = 35 then nI (k + 1) else if 36 + 35 * k ≤ j ∧ j < 71 + 35 * k then g (j - (36 + 35 * k)) else g j)) L) : AW E8_know d 0 n0 Q 56 [some (.ref 0), v1] [] Sm (sr M 13 g) L 0 := by
  refine aw_run ok8_know (at1 58) 10 ?_
  have e0 : sr M 13 g = sr M 13 (fun j => if 36 + 35 * k ≤ j ∧ j < 36 + 35 * k + 0 then g (j - (36 + 35 * k)) else g j) := by
    congr 1; funext j; rw [if_neg (by omega)]
  rw [e0]
  refine aw_loop 35 (fun i => [some (.ref 0), some (.int (nI i))]) (fun i => sr M 13 (fun j => if 36 + 35 * k ≤ j ∧ j < 36 + 35 * k + i then g (j - (36 + 35 * k)) else g j)) ?_ ?_
  · refine aw_run ok8_know (at1 58) 30 ?_
    refine inBI 35 rfl (by decide) ?_
    refine inBI 35 rfl (by decide) ?_
    rw [um_sr]
    refine cast (congrArg (fun z => Q none Sm z L) ?_) hq
    congr 1
    funext j
    by_cases hj : j = 35
    · subst hj
      rw [if_pos rfl]
      show _ = upd _ 35 _ 35
      rw [pk_us]
      show _ = (if 36 + 35 * k ≤ 35 ∧ _ then _ else g 35) + 1
      rw [if_neg (by omega), hk, nI_1]
    · rw [if_neg hj, pk_un hj]
      by_cases h2 : 36 + 35 * k ≤ j ∧ j < 71 + 35 * k
      · rw [if_pos h2, if_pos (by omega)]
      · rw [if_neg h2, if_neg (by omega)]
  · intro i hi ih
    rw [nI_succ] at ih
    refine aw_run ok8_know (at1 58) 40 ?_
    refine ifF (nI_ge (b := 35) hi (by decide)) ?_
    refine inBI 35 rfl (by decide) ?_
    refine inBI (n := 1158) i rfl (by omega) ?_
    refine inBI (n := 1158) (36 + 35 * k + i) ?_ (by omega) ?_
    · show 36 + 35 * (if 36 + 35 * k ≤ 35 ∧ _ then _ else g 35) + nI i = _
      rw [if_neg (by omega), hk, show (35 : Int32) = nI 35 from rfl, show (36 : Int32) = nI 36 from rfl, pk_mul, nI_add, nI_add]
    · rw [um_sr]
      refine cast (congrArg (fun z => AW E8_know d 0 n0 Q 58 [some (.ref 0), some (.int (nI i + 1))] [] Sm z L 0) ?_) ih
      congr 1
      funext j
      by_cases hj : j = 36 + 35 * k + i
      · subst hj
        rw [if_pos (by omega), pk_us]
        show _ = (if 36 + 35 * k ≤ i ∧ i < 36 + 35 * k + i then _ else g i)
        rw [if_neg (by omega), show 36 + 35 * k + i - (36 + 35 * k) = i by omega]
      · rw [pk_un hj]
        by_cases h2 : 36 + 35 * k ≤ j ∧ j < 36 + 35 * k + i
        · rw [if_pos h2, if_pos (by omega)]
        · rw [if_neg h2, if_neg (by omega)]
theorem cm_know {d k : Nat} {M : AM} {L : AL} {Q : QT} (hk : M 13 35 = nI k) (hk10 : k ≤ 10) (hq : Q none Sm (sr M 13 (knowV (M 13) k)) L) : CW E8_know d 0 [.ref 0] Sm M L Q := by
  refine cw_ent ok8_know (fun q => Nat.beq q 14 || Nat.beq q 56) 30 ?_
  refine inBI 35 rfl (by decide) ?_
  refine iteI (fun (e : M 13 35 = 10) => ?_) (fun (e : ¬ M 13 35 = 10) => ?_)
  · have h10 : k = 10 := by
      rw [hk] at e
      exact (nI_eq (by omega) (by decide)).mp (e.trans (show (10 : Int32) = nI 10 from rfl))
    subst h10
    have e0 : M = sr M 13 (fun j => if 36 ≤ j ∧ j < 36 + 0 then M 13 (j + 35) else M 13 j) := by
      refine (sr_self M 13).symm.trans ?_
      congr 1; funext j; rw [if_neg (by omega)]
    have key : AW E8_know d 0 Sm.length Q 14 [some (.ref 0), some (.int (nI 0))] [] Sm (sr M 13 (fun j => if 36 ≤ j ∧ j < 36 + 0 then M 13 (j + 35) else M 13 j)) L 0 := by
      refine aw_loop 315 (fun i => [some (.ref 0), some (.int (nI i))]) (fun i => sr M 13 (fun j => if 36 ≤ j ∧ j < 36 + i then M 13 (j + 35) else M 13 j)) ?_ ?_
      · refine aw_run ok8_know (fun q => Nat.beq q 14 || Nat.beq q 56) 30 ?_
        refine inBI 35 rfl (by decide) ?_
        refine inBI 35 rfl (by decide) ?_
        rw [um_sr]
        refine cm_know2 (k := 9) ?_ (by decide) ?_
        · rw [pk_us]
          show (if 36 ≤ 35 ∧ 35 < 36 + 315 then M 13 (35 + 35) else M 13 35) - 1 = _
          rw [if_neg (by omega), hk]
          rfl
        · refine cast (congrArg (fun z => Q none Sm z L) ?_) hq
          congr 1
          funext j
          unfold knowV
          by_cases hj : j = 35
          · rw [if_pos hj, if_pos hj, if_pos rfl]
          · rw [if_neg hj, if_neg hj, if_pos rfl]
            by_cases h2 : 36 ≤ j ∧ j < 351
            · rw [if_pos h2, if_neg (by omega), pk_un hj, if_pos (by omega)]
            · rw [if_neg h2]
              by_cases h3 : 351 ≤ j ∧ j < 386
              · rw [if_pos h3, if_pos (by omega), pk_un (by omega), if_neg (by omega)]
              · rw [if_neg h3, if_neg (by omega), pk_un hj, if_neg (by omega)]
      · intro i hi ih
        rw [nI_succ] at ih
        refine aw_run ok8_know (fun q => Nat.beq q 14 || Nat.beq q 56) 40 ?_
        refine ifF (nI_ge (b := 315) hi (by decide)) ?_
        refine inBI (n := 1158) (71 + i) (nI_add 71 i) (by omega) ?_
        refine inBI (n := 1158) (36 + i) (nI_add 36 i) (by omega) ?_
        rw [um_sr]
        refine cast (congrArg (fun z => AW E8_know d 0 Sm.length Q 14 [some (.ref 0), some (.int (nI i + 1))] [] Sm z L 0) ?_) ih
        congr 1
        funext j
        by_cases hj : j = 36 + i
        · subst hj
          rw [if_pos (by omega), pk_us]
          show _ = (if 36 ≤ 71 + i ∧ 71 + i < 36 + i then _ else M 13 (71 + i))
          rw [if_neg (by omega), show 36 + i + 35 = 71 + i by omega]
        · rw [pk_un hj]
          by_cases h2 : 36 ≤ j ∧ j < 36 + i
          · rw [if_pos h2, if_pos (by omega)]
          · rw [if_neg h2, if_neg (by omega)]
    rw [← e0] at key
    exact key
  · have hk9 : k < 10 := by
      rcases Nat.lt_or_ge k 10 with g | g
      · exact g
      · exact absurd (by rw [hk, show k = 10 by omega]; rfl) e
    have key := cm_know2 (d := d) (n0 := Sm.length) (v1 := none) (M := M) (L := L) (Q := Q) (g := M 13) hk hk9 (by
      refine cast (congrArg (fun z => Q none Sm z L) ?_) hq
      congr 1
      funext j
      unfold knowV
      rw [if_neg (show ¬ k = 10 by omega), if_neg (show ¬ k = 10 by omega)])
    rw [sr_self] at key
    exact key
