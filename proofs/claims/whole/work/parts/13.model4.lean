/-! ===== the model: undo, images, sights, marks, small questions ===== -/
/-- a row of the vector's cell copied: n cells from a to b, in cell l -/
def cpV (v : Nat → Int32) (a b n : Nat) (j : Nat) : Int32 := if b ≤ j ∧ j < b + n then v (a + (j - b)) else v j
theorem cm_undo {d k : Nat} {M : AM} {L : AL} {Q : QT} (hk : M 13 35 = nI k) (hk10 : k ≤ 10) (h1 : k = 0 → Q (some (.int (-2))) Sm M L)
    (h2 : ∀ k', k = k' + 1 → Q (some (.int (nI k'))) Sm (sr M 13 (fun j => if j < 35 then M 13 (36 + 35 * k' + j) else if j = 35 then nI k' else M 13 j)) L) : CW E8_undo d 0 [.ref 0] Sm M L Q := by
  refine cw_ent ok8_undo (at1 26) 40 ?_
  refine inBI 35 rfl (by decide) ?_
  refine iteI (fun (e : M 13 35 = 0) => ?_) (fun (e : ¬ M 13 35 = 0) => ?_)
  · refine h1 ?_
    rw [hk] at e
    exact (nI_eq (by omega) (by decide)).mp (e.trans nI_0.symm)
  · obtain ⟨k', rfl⟩ : ∃ k', k = k' + 1 := ⟨k - 1, by
      have : k ≠ 0 := fun z => e (by rw [hk, z]; rfl)
      omega⟩
    refine inBI 35 rfl (by decide) ?_
    refine inBI 35 rfl (by decide) ?_
    have hq := h2 k' rfl
    have e0 : um M 13 35 (M 13 35 - 1) = sr M 13 (fun j => if j < 0 then M 13 (36 + 35 * k' + j) else if j = 35 then nI k' else M 13 j) := by
      rw [um_eq_sr]
      congr 1
      funext j
      rw [if_neg (by omega)]
      by_cases hj : j = 35
      · subst hj; rw [pk_us, if_pos rfl, hk, nI_pred]
      · rw [pk_un hj, if_neg hj]
    have key : AW E8_undo d 0 Sm.length Q 26 [some (.ref 0), some (.int (nI 0))] [] Sm (sr M 13 (fun j => if j < 0 then M 13 (36 + 35 * k' + j) else if j = 35 then nI k' else M 13 j)) L 0 := by
      refine aw_loop 35 (fun i => [some (.ref 0), some (.int (nI i))]) (fun i => sr M 13 (fun j => if j < i then M 13 (36 + 35 * k' + j) else if j = 35 then nI k' else M 13 j)) ?_ ?_
      · refine aw_run ok8_undo (at1 26) 40 ?_
        refine inBI 35 rfl (by decide) ?_
        exact hq
      · intro i hi ih
        rw [nI_succ] at ih
        refine aw_run ok8_undo (at1 26) 40 ?_
        refine ifF (nI_ge (b := 35) hi (by decide)) ?_
        refine inBI 35 rfl (by decide) ?_
        refine inBI (n := 1158) (36 + 35 * k' + i) ?_ (by omega) ?_
        · show 36 + 35 * (if 35 < i then _ else if 35 = 35 then nI k' else _) + nI i = _
          rw [if_neg (by omega), if_pos rfl, show (35 : Int32) = nI 35 from rfl, show (36 : Int32) = nI 36 from rfl, pk_mul, nI_add, nI_add]
        refine inBI (n := 1158) i rfl (by omega) ?_
        rw [um_sr]
        refine cast (congrArg (fun z => AW E8_undo d 0 Sm.length Q 26 [some (.ref 0), some (.int (nI i + 1))] [] Sm z L 0) ?_) ih
        congr 1
        funext j
        by_cases hj : j = i
        · subst hj
          rw [if_pos (by omega), pk_us]
          show _ = (if 36 + 35 * k' + j < j then _ else if 36 + 35 * k' + j = 35 then _ else _)
          rw [if_neg (by omega), if_neg (by omega)]
        · rw [pk_un hj]
          by_cases h2 : j < i
          · rw [if_pos h2, if_pos (by omega)]
          · rw [if_neg h2, if_neg (by omega)]
    rw [← e0] at key
    exact key
theorem cm_take {d : Nat} {M : AM} {L : AL} {Q : QT} (hq : Q none Sm (sr M 15 (fun j => if j < 35 then M 13 j else M 15 j)) L) : CW E8_take d 0 [.ref 0] Sm M L Q := by
  refine cw_ent ok8_take (at1 2) 40 ?_
  have e0 : M = sr M 15 (fun j => if j < 0 then M 13 j else M 15 j) := by
    refine (sr_self M 15).symm.trans ?_
    congr 1
  have key : AW E8_take d 0 Sm.length Q 2 [some (.ref 0), some (.int (nI 0))] [] Sm (sr M 15 (fun j => if j < 0 then M 13 j else M 15 j)) L 0 := by
    refine aw_loop 35 (fun i => [some (.ref 0), some (.int (nI i))]) (fun i => sr M 15 (fun j => if j < i then M 13 j else M 15 j)) ?_ ?_
    · refine aw_run ok8_take (at1 2) 40 ?_
      exact hq
    · intro i hi ih
      rw [nI_succ] at ih
      refine aw_run ok8_take (at1 2) 40 ?_
      refine ifF (nI_ge (b := 35) hi (by decide)) ?_
      refine inBI (n := 1158) i rfl (by omega) ?_
      refine inBI (n := 35) i rfl (by omega) ?_
      rw [um_sr]
      refine cast (congrArg (fun z => AW E8_take d 0 Sm.length Q 2 [some (.ref 0), some (.int (nI i + 1))] [] Sm z L 0) ?_) ih
      congr 1
      funext j
      by_cases hj : j = i
      · subst hj
        rw [if_pos (by omega), pk_us]
        rfl
      · rw [pk_un hj]
        by_cases h2 : j < i
        · rw [if_pos h2, if_pos (by omega)]
        · rw [if_neg h2, if_neg (by omega)]
  rw [← e0] at key
  exact key
theorem im_ix (x : Int32) : (fIn x 0 1 = 0 ∧ ¬ x = 0 ∧ ¬ x = 1) ∨ ∃ j : Nat, j < 2 ∧ x = nI j ∧ fIn x 0 1 = 1 := by
  rcases fIn_ix x (n := 2) (by decide) with ⟨g1, g2⟩ | g
  · refine Or.inl ⟨g1, ?_, ?_⟩
    · rintro rfl; revert g2; decide
    · rintro rfl; revert g2; decide
  · exact Or.inr g
theorem cm_keepI {d : Nat} {x : Int32} {M : AM} {L : AL} {Q : QT} (h1 : ¬ x = 0 → ¬ x = 1 → Q (some (.int (-1))) Sm M L)
    (h2 : ∀ im, im < 2 → x = nI im → Q (some (.int (M 13 2))) Sm (um (sr M 13 (fun j => if 386 * (1 + im) ≤ j ∧ j < 386 * (1 + im) + 386 then M 13 (j - 386 * (1 + im)) else M 13 j)) 14 im 1) L) : CW E8_keep (d + 1) 0 [.ref 0, .int x] Sm M L Q := by
  refine cw_ent ok8_keep (at1 13) 40 ?_
  refine cm_in ?_
  rcases im_ix x with ⟨g1, g2, g3⟩ | ⟨im, g1, rfl, g3⟩
  · exact ifT g1 (h1 g2 g3)
  · refine ifF (by rw [g3]; decide) ?_
    have hq := h2 im g1 rfl
    have e0 : M = sr M 13 (fun j => if 386 * (1 + im) ≤ j ∧ j < 386 * (1 + im) + 0 then M 13 (j - 386 * (1 + im)) else M 13 j) := by
      refine (sr_self M 13).symm.trans ?_
      congr 1; funext j; rw [if_neg (by omega)]
    have key : AW E8_keep (d + 1) 0 Sm.length Q 13 [some (.ref 0), some (.int (nI im)), some (.int (nI 0))] [] Sm (sr M 13 (fun j => if 386 * (1 + im) ≤ j ∧ j < 386 * (1 + im) + 0 then M 13 (j - 386 * (1 + im)) else M 13 j)) L 0 := by
      refine aw_loop 386 (fun i => [some (.ref 0), some (.int (nI im)), some (.int (nI i))]) (fun i => sr M 13 (fun j => if 386 * (1 + im) ≤ j ∧ j < 386 * (1 + im) + i then M 13 (j - 386 * (1 + im)) else M 13 j)) ?_ ?_
      · refine aw_run ok8_keep (at1 13) 40 ?_
        refine inBI (n := 2) im rfl g1 ?_
        refine inBI 2 rfl (by decide) ?_
        have e1 : um (sr M 13 (fun j => if 386 * (1 + im) ≤ j ∧ j < 386 * (1 + im) + 386 then M 13 (j - 386 * (1 + im)) else M 13 j)) 14 im (vp_nar .boolean 1) 13 2 = M 13 2 := by
          rw [um_ne _ _ _ (by decide), sr_at, if_neg (by omega)]
        rw [e1]
        exact hq
      · intro i hi ih
        rw [nI_succ] at ih
        refine aw_run ok8_keep (at1 13) 40 ?_
        refine ifF (nI_ge (b := 386) hi (by decide)) ?_
        refine inBI (n := 1158) i rfl (by omega) ?_
        refine inBI (n := 1158) (386 * (1 + im) + i) ?_ (by omega) ?_
        · rw [show (386 : Int32) = nI 386 from rfl, show (1 : Int32) = nI 1 from rfl, nI_add, pk_mul, nI_add]
        rw [um_sr]
        refine cast (congrArg (fun z => AW E8_keep (d + 1) 0 Sm.length Q 13 [some (.ref 0), some (.int (nI im)), some (.int (nI i + 1))] [] Sm z L 0) ?_) ih
        congr 1
        funext j
        by_cases hj : j = 386 * (1 + im) + i
        · subst hj
          rw [if_pos (by omega), pk_us]
          show _ = (if 386 * (1 + im) ≤ i ∧ i < 386 * (1 + im) + i then _ else M 13 i)
          rw [if_neg (by omega), show 386 * (1 + im) + i - 386 * (1 + im) = i by omega]
        · rw [pk_un hj]
          by_cases h2 : 386 * (1 + im) ≤ j ∧ j < 386 * (1 + im) + i
          · rw [if_pos h2, if_pos (by omega)]
          · rw [if_neg h2, if_neg (by omega)]
    rw [← e0] at key
    exact key
theorem cm_back {d : Nat} {x : Int32} {M : AM} {L : AL} {Q : QT} (h1 : ¬ x = 0 → ¬ x = 1 → Q (some (.int (-1))) Sm M L) (h2 : ∀ im, im < 2 → x = nI im → M 14 im = 0 → Q (some (.int (-2))) Sm M L)
    (h3 : ∀ im, im < 2 → x = nI im → ¬ M 14 im = 0 → Q (some (.int (M 13 (386 * (1 + im) + 2)))) Sm (sr M 13 (fun j => if j < 386 then M 13 (386 * (1 + im) + j) else M 13 j)) L) : CW E8_back (d + 1) 0 [.ref 0, .int x] Sm M L Q := by
  refine cw_ent ok8_back (at1 25) 40 ?_
  refine cm_in ?_
  rcases im_ix x with ⟨g1, g2, g3⟩ | ⟨im, g1, rfl, g3⟩
  · exact ifT g1 (h1 g2 g3)
  · refine ifF (by rw [g3]; decide) ?_
    refine inBI (n := 2) im rfl g1 ?_
    refine iteI (fun e => h2 im g1 rfl e) (fun e => ?_)
    have hq := h3 im g1 rfl e
    have e0 : M = sr M 13 (fun j => if j < 0 then M 13 (386 * (1 + im) + j) else M 13 j) := by
      refine (sr_self M 13).symm.trans ?_
      congr 1
    have key : AW E8_back (d + 1) 0 Sm.length Q 25 [some (.ref 0), some (.int (nI im)), some (.int (nI 0))] [] Sm (sr M 13 (fun j => if j < 0 then M 13 (386 * (1 + im) + j) else M 13 j)) L 0 := by
      refine aw_loop 386 (fun i => [some (.ref 0), some (.int (nI im)), some (.int (nI i))]) (fun i => sr M 13 (fun j => if j < i then M 13 (386 * (1 + im) + j) else M 13 j)) ?_ ?_
      · refine aw_run ok8_back (at1 25) 40 ?_
        refine inBI 2 rfl (by decide) ?_
        exact hq
      · intro i hi ih
        rw [nI_succ] at ih
        refine aw_run ok8_back (at1 25) 40 ?_
        refine ifF (nI_ge (b := 386) hi (by decide)) ?_
        refine inBI (n := 1158) (386 * (1 + im) + i) ?_ (by omega) ?_
        · rw [show (386 : Int32) = nI 386 from rfl, show (1 : Int32) = nI 1 from rfl, nI_add, pk_mul, nI_add]
        refine inBI (n := 1158) i rfl (by omega) ?_
        rw [um_sr]
        refine cast (congrArg (fun z => AW E8_back (d + 1) 0 Sm.length Q 25 [some (.ref 0), some (.int (nI im)), some (.int (nI i + 1))] [] Sm z L 0) ?_) ih
        congr 1
        funext j
        by_cases hj : j = i
        · subst hj
          rw [if_pos (by omega), pk_us]
          show _ = (if 386 * (1 + im) + j < j then _ else M 13 (386 * (1 + im) + j))
          rw [if_neg (by omega)]
        · rw [pk_un hj]
          by_cases h2 : j < i
          · rw [if_pos h2, if_pos (by omega)]
          · rw [if_neg h2, if_neg (by omega)]
    rw [← e0] at key
    exact key
theorem cm_saw {d n k : Nat} {s h : Int32} {M : AM} {L : AL} {Q : QT} (hn : M 2 0 = nI n) (hn6 : n ≤ 6) (hk : M 0 29 = nI k) (hk6 : k ≤ 6)
    (h1 : (fIn s 1 ((1 : Int32) <<< (nI n &&& 31) - 1) = 0 ∨ (h < 0 ∨ nI n ≤ h) ∨ s >>> (h &&& 31) &&& 1 = 0) → Q (some (.int (-1))) Sm M L)
    (h2 : ∀ j, j < n → h = nI j → ¬ fIn s 1 ((1 : Int32) <<< (nI n &&& 31) - 1) = 0 → ¬ s >>> (h &&& 31) &&& 1 = 0 → k = 6 → Q (some (.int (-3))) Sm M L)
    (h3 : ∀ j, j < n → h = nI j → ¬ fIn s 1 ((1 : Int32) <<< (nI n &&& 31) - 1) = 0 → ¬ s >>> (h &&& 31) &&& 1 = 0 → k < 6 → Q (some (.int (M 0 29 + 1))) Sm (um (um (um M 19 k s) 20 k h) 0 29 (M 0 29 + 1)) L) : CW E8_saw (d + 2) 0 [.ref 0, .int s, .int h] Sm M L Q := by
  refine cw_ent ok8_saw noStop 60 ?_
  refine inBI 0 rfl (by decide) ?_
  refine cm_in ?_
  rw [← hn] at h1 h2 h3
  refine iteI (fun e => h1 (Or.inl e)) (fun e => ?_)
  refine cm_isHand ?_
  rcases fIn_ix h (n := n) (by omega) with ⟨g1, g2⟩ | ⟨j, g1, g2, g3⟩
  · exact ifT (by rw [hn]; exact g1) (h1 (Or.inr (Or.inl (by rw [hn]; exact g2))))
  · refine ifF (by rw [hn, g3]; decide) ?_
    refine iteI (fun e1 => h1 (Or.inr (Or.inr e1))) (fun e1 => ?_)
    refine iteI (fun (e2 : M 0 29 = 6) => ?_) (fun (e2 : ¬ M 0 29 = 6) => ?_)
    · refine h2 j g1 g2 e e1 ?_
      rw [hk] at e2
      exact (nI_eq (by omega) (by decide)).mp (e2.trans (show (6 : Int32) = nI 6 from rfl))
    · have hlt : k < 6 := by
        rcases Nat.lt_or_ge k 6 with g | g
        · exact g
        · exact absurd (by rw [hk, show k = 6 by omega]; rfl) e2
      refine inBI (n := 6) k hk hlt ?_
      refine inBI (n := 6) k hk hlt ?_
      exact h3 j g1 g2 e e1 hlt
def keenUp (z : Int32) (sv hv : Nat → Int32) : Nat → Int32
  | 0 => z
  | i + 1 => keenUp z sv hv i &&& ((sv i &&& ((1 : Int32) <<< (hv i &&& 31) ^^^ -1)) ^^^ -1)
theorem cm_keen {d k : Nat} {M : AM} {L : AL} {Q : QT} (hk : M 0 29 = nI k) (hk6 : k ≤ 6) (hq : Q (some (.int (keenUp ((1 : Int32) <<< (M 2 0 &&& 31) - 1) (M 19) (M 20) k))) Sm M L) : CW E8_keen d 0 [.ref 0] Sm M L Q := by
  refine cw_ent ok8_keen (at1 13) 30 ?_
  refine inBI 0 rfl (by decide) ?_
  refine aw_loop k (fun i => [some (.ref 0), some (.int (keenUp ((1 : Int32) <<< (M 2 0 &&& 31) - 1) (M 19) (M 20) i)), some (.int (nI i))]) (fun _ => M) ?_ ?_
  · refine aw_run ok8_keen (at1 13) 40 ?_
    exact ifT (by rw [hk]; exact Int32.le_refl _) hq
  · intro i hi ih
    rw [nI_succ] at ih
    refine aw_run ok8_keen (at1 13) 40 ?_
    refine ifF (by rw [hk]; exact nI_ge hi (by omega)) ?_
    refine inBI (n := 6) i rfl (by omega) ?_
    refine inBI (n := 6) i rfl (by omega) ?_
    exact ih
theorem cm_ship {d n : Nat} {s w : Int32} {M : AM} {L : AL} {Q : QT} (hn : M 7 0 = nI n) (hn5 : n ≤ 5) (h1 : ((s < 0 ∨ nI n ≤ s) ∨ (¬ w = 0 ∧ ¬ w = 1 ∧ ¬ w = 2)) → Q (some (.int (-1))) Sm M L)
    (h2 : ∀ j, j < n → s = nI j → (w = 0 ∨ w = 1 ∨ w = 2) → Q (some (.int (if w = 0 then M 8 j else if w = 1 then M 9 j else if M 13 34 >>> (nI j &&& 31) &&& 1 = 1 then 1 else if M 13 33 >>> (nI j &&& 31) &&& 1 = 1 then 2 else 0))) Sm M L) : CW E8_ship (d + 2) 0 [.ref 0, .int s, .int w] Sm M L Q := by
  refine cw_ent ok8_ship noStop 60 ?_
  refine cm_isShip ?_
  rcases fIn_ix s (n := n) (by omega) with ⟨g1, g2⟩ | ⟨j, g1, rfl, g3⟩
  · exact ifT (by rw [hn]; exact g1) (h1 (Or.inl g2))
  · refine ifF (by rw [hn, g3]; decide) ?_
    refine cm_in ?_
    rcases fIn_ix w (n := 3) (by decide) with ⟨z1, z2⟩ | ⟨i, z1, rfl, z3⟩
    · refine ifT z1 (h1 (Or.inr ⟨?_, ?_, ?_⟩)) <;> (rintro rfl; revert z2; decide)
    · have hw : nI i = 0 ∨ nI i = 1 ∨ nI i = 2 := by
        rcases (by omega : i = 0 ∨ i = 1 ∨ i = 2) with rfl | rfl | rfl
        · exact Or.inl rfl
        · exact Or.inr (Or.inl rfl)
        · exact Or.inr (Or.inr rfl)
      have hq := h2 j g1 rfl hw
      refine ifF (c := fIn (nI i) 0 2 = 0) (by rw [show fIn (nI i) 0 2 = 1 from z3]; decide) ?_
      refine iteI (fun e => ?_) (fun e => ?_)
      · rw [if_pos e] at hq
        exact inBI (n := 10) j rfl (by omega) hq
      rw [if_neg e] at hq
      refine iteI (fun e => ?_) (fun e => ?_)
      · rw [if_pos e] at hq
        exact inBI (n := 10) j rfl (by omega) hq
      rw [if_neg e] at hq
      refine inBI 34 rfl (by decide) ?_
      refine iteI (fun e => ?_) (fun e => ?_)
      · rw [if_pos e] at hq; exact hq
      rw [if_neg e] at hq
      refine inBI 33 rfl (by decide) ?_
      refine iteI (fun e => ?_) (fun e => ?_)
      · rw [if_pos e] at hq; exact hq
      · rw [if_neg e] at hq; exact hq
def fNow (M : AM) (n : Nat) (w : Int32) : Int32 := if w = 0 then M 13 2 else if w = 1 then M 13 1 else if w = 2 then M 13 0 else if w = 3 then sumTo (fForce (M 13 0) 0 (fun h => fStr (M 4 h - M 13 (9 + h)))) n else if w = 4 then sumTo (fPart (M 13 0) (M 13 1) (M 3)) n else if w = 5 then M 13 33 else if w = 6 then rivUp (M 13 0) (M 6) n n else -1
theorem cm_now {d n : Nat} {w : Int32} {M : AM} {L : AL} {Q : QT} (hn : M 2 0 = nI n) (hn6 : n ≤ 6) (hq : Q (some (.int (fNow M n w))) Sm M L) : CW E8_now (d + 4) 0 [.ref 0, .int w] Sm M L Q := by
  refine cw_ent ok8_now noStop 60 ?_
  unfold fNow at hq
  refine iteI (fun e => ?_) (fun e => ?_)
  · rw [if_pos e] at hq
    exact inBI 2 rfl (by decide) hq
  rw [if_neg e] at hq
  refine iteI (fun e => ?_) (fun e => ?_)
  · rw [if_pos e] at hq
    exact inBI 1 rfl (by decide) hq
  rw [if_neg e] at hq
  refine iteI (fun e => ?_) (fun e => ?_)
  · rw [if_pos e] at hq
    exact inBI 0 rfl (by decide) hq
  rw [if_neg e] at hq
  refine iteI (fun e => ?_) (fun e => ?_)
  · rw [if_pos e] at hq
    exact cm_force (Or.inl rfl) hn hn6 hq
  rw [if_neg e] at hq
  refine iteI (fun e => ?_) (fun e => ?_)
  · rw [if_pos e] at hq
    exact cm_parts (Or.inl rfl) hn hn6 hq
  rw [if_neg e] at hq
  refine iteI (fun e => ?_) (fun e => ?_)
  · rw [if_pos e] at hq
    exact inBI 33 rfl (by decide) hq
  rw [if_neg e] at hq
  refine iteI (fun e => ?_) (fun e => ?_)
  · rw [if_pos e] at hq
    exact cm_rivals hn hn6 hq
  rw [if_neg e] at hq
  exact hq
theorem cm_won {d n : Nat} {h : Int32} {M : AM} {L : AL} {Q : QT} (hn : M 2 0 = nI n) (hn6 : n ≤ 6) (h1 : (h < 0 ∨ nI n ≤ h) → Q (some (.int (-1))) Sm M L) (h2 : ∀ j, j < n → h = nI j → fAb (M 13 0) (nI j) = 0 → Q (some (.int (-9))) Sm M L)
    (h3 : ∀ j, j < n → h = nI j → ¬ fAb (M 13 0) (nI j) = 0 → Q (some (.int (fStr (manyUp (M 13 0) 6 / 2 + 1 - voUp (M 13 0) (M 6) j n)))) Sm M L) : CW E8_won (d + 2) 0 [.ref 0, .int h] Sm M L Q := by
  refine cw_ent ok8_won noStop 60 ?_
  refine cm_isHand ?_
  rcases fIn_ix h (n := n) (by omega) with ⟨g1, g2⟩ | ⟨j, g1, rfl, g3⟩
  · exact ifT (by rw [hn]; exact g1) (h1 g2)
  · refine ifF (by rw [hn, g3]; decide) ?_
    refine cm_isAboard (Or.inl rfl) ?_
    refine iteI (fun e => h2 j g1 rfl e) (fun e => ?_)
    have hq := h3 j g1 rfl e
    refine inBI 0 rfl (by decide) ?_
    refine cm_many ?_
    refine cm_voices hn hn6 ?_
    unfold fStr at hq
    refine iteI (fun e1 => ?_) (fun e1 => ?_)
    · rw [if_pos e1] at hq; exact hq
    · rw [if_neg e1] at hq; exact hq
def bandUp (a : Int32) (lk : Nat → Int32) (h : Nat) : Nat → Int32
  | 0 => 0
  | o + 1 => bandUp a lk h o ||| (if fAb a (nI o) = 0 then (0 : Int32) else if lk h >>> (nI o &&& 31) &&& 1 = 1 then (if lk o >>> (nI h &&& 31) &&& 1 = 1 then (1 : Int32) <<< (nI o &&& 31) else 0) else 0)
theorem cm_band {d n : Nat} {h : Int32} {M : AM} {L : AL} {Q : QT} (hn : M 2 0 = nI n) (hn6 : n ≤ 6) (h1 : (h < 0 ∨ nI n ≤ h) → Q (some (.int (-1))) Sm M L) (h2 : ∀ j, j < n → h = nI j → Q (some (.int (bandUp (M 13 0) (M 6) j n))) Sm M L) : CW E8_band (d + 2) 0 [.ref 0, .int h] Sm M L Q := by
  refine cw_ent ok8_band (at1 14) 60 ?_
  refine cm_isHand ?_
  rcases fIn_ix h (n := n) (by omega) with ⟨g1, g2⟩ | ⟨j, g1, rfl, g3⟩
  · exact ifT (by rw [hn]; exact g1) (h1 g2)
  · refine ifF (by rw [hn, g3]; decide) ?_
    have hq := h2 j g1 rfl
    refine aw_loop n (fun i => [some (.ref 0), some (.int (nI j)), some (.int (bandUp (M 13 0) (M 6) j i)), some (.int (nI i))]) (fun _ => M) ?_ ?_
    · refine aw_run ok8_band (at1 14) 60 ?_
      refine inBI 0 rfl (by decide) ?_
      exact ifT (by rw [hn]; exact Int32.le_refl _) hq
    · intro i hi ih
      rw [nI_succ] at ih
      refine aw_run ok8_band (at1 14) 60 ?_
      refine inBI 0 rfl (by decide) ?_
      refine ifF (by rw [hn]; exact nI_ge hi (by omega)) ?_
      unfold bandUp at ih
      refine cm_isAboard (Or.inl rfl) ?_
      refine iteI (fun e => ?_) (fun e => ?_)
      · rw [if_pos e] at ih; exact ih
      rw [if_neg e] at ih
      refine inBI (n := 12) j rfl (by omega) ?_
      refine iteI (fun e => ?_) (fun e => ?_)
      · rw [if_pos e] at ih
        refine inBI (n := 12) i rfl (by omega) ?_
        refine iteI (fun e => ?_) (fun e => ?_)
        · rw [if_pos e] at ih; exact ih
        · rw [if_neg e] at ih; exact ih
      · rw [if_neg e] at ih; exact ih
/-- marks: the trace's step, and the answer -/
def mkL (i : Nat) : Int64 := if i = 0 then 1 else if i = 1 then 11 else if i = 2 then 101 else if i = 3 then 1011 else if i = 4 then 10101 else 100001
def mkV (M : AM) (i j : Nat) : Int32 := if i = 0 then M 3 j else if i = 1 then M 3 j + M 4 j else if i = 2 then M 3 j - M 13 (9 + j) else if i = 3 then 2 * (M 3 j + M 4 j) else if i = 4 then M 3 j - M 13 (9 + j) + M 5 j else M 3 j + M 13 (27 + j)
theorem cm_mark {d n : Nat} {kd h : Int32} {M : AM} {L : AL} {Q : QT} (hn : M 2 0 = nI n) (hn6 : n ≤ 6) (h1 : ((kd < 0 ∨ nI 6 ≤ kd) ∨ (h < 0 ∨ nI n ≤ h)) → Q (some (.int (-1000000))) Sm M L)
    (h2 : ∀ i j, i < 6 → j < n → kd = nI i → h = nI j → Q (some (.int (mkV M i j))) Sm M (ul L 0 0 (L 0 0 + mkL i))) : CW E8_mark (d + 2) 0 [.ref 0, .int kd, .int h] Sm M L Q := by
  refine cw_ent ok8_mark noStop 60 ?_
  refine cm_in ?_
  rcases fIn_ix kd (n := 6) (by decide) with ⟨z1, z2⟩ | ⟨i, z1, rfl, z3⟩
  · exact ifT z1 (h1 (Or.inl z2))
  refine ifF (c := fIn (nI i) 0 5 = 0) (by rw [show fIn (nI i) 0 5 = 1 from z3]; decide) ?_
  refine cm_isHand ?_
  rcases fIn_ix h (n := n) (by omega) with ⟨g1, g2⟩ | ⟨j, g1, rfl, g3⟩
  · exact ifT (by rw [hn]; exact g1) (h1 (Or.inr g2))
  refine ifF (by rw [hn, g3]; decide) ?_
  have hq := h2 i j z1 g1 rfl rfl
  refine inBI (n := 12) j rfl (by omega) ?_
  refine inBI (n := 1158) (9 + j) (nI_add 9 j) (by omega) ?_
  rcases (by omega : i = 0 ∨ i = 1 ∨ i = 2 ∨ i = 3 ∨ i = 4 ∨ i = 5) with rfl | rfl | rfl | rfl | rfl | rfl
  · exact inBI (n := 12) j rfl (by omega) hq
  · refine inBI (n := 12) j rfl (by omega) ?_
    exact inBI (n := 12) j rfl (by omega) hq
  · exact hq
  · refine inBI (n := 12) j rfl (by omega) ?_
    exact inBI (n := 12) j rfl (by omega) hq
  · exact inBI (n := 12) j rfl (by omega) hq
  · refine inBI (n := 12) j rfl (by omega) ?_
    exact inBI (n := 1158) (27 + j) (nI_add 27 j) (by omega) hq
