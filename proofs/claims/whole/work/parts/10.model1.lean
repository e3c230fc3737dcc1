/-! ===== the model's world and its small methods ===== -/
def Sm : AS := [.inl (8, [.long 0, .ref 1, .int 0, .ref 2, .ref 3, .ref 4, .ref 5, .ref 6, .ref 7, .ref 8, .ref 9, .ref 10, .ref 11, .ref 12, .int 0, .int 0, .int 0, .int 0, .int 0, .int 0, .ref 13, .ref 14, .ref 15, .ref 16, .ref 17, .ref 18, .int 0, .ref 19, .ref 20, .int 0]),
  .inr (.byte, 150, fun _ => none), .inr (.int, 2, fun _ => none), .inr (.int, 12, fun _ => none), .inr (.int, 12, fun _ => none), .inr (.int, 12, fun _ => none), .inr (.int, 12, fun _ => none), .inr (.int, 2, fun _ => none), .inr (.int, 10, fun _ => none), .inr (.int, 10, fun _ => none), .inr (.int, 2, fun _ => none), .inr (.int, 10, fun _ => none), .inr (.int, 2, fun _ => none), .inr (.int, 1158, fun _ => none), .inr (.boolean, 2, fun _ => none), .inr (.int, 35, fun _ => none), .inr (.int, 6, fun _ => none), .inr (.int, 5, fun _ => none), .inr (.int, 5, fun _ => none), .inr (.int, 6, fun _ => none), .inr (.int, 6, fun _ => none)]
def fIn (v lo hi : Int32) : Int32 := if v < lo then 0 else if hi < v then 0 else 1
theorem cm_in {d : Nat} {v lo hi : Int32} {S : AS} {M : AM} {L : AL} {Q : QT} (h : Q (some (.int (fIn v lo hi))) S M L) : CW E8_in d 0 [.int v, .int lo, .int hi] S M L Q := by
  refine cw_ent ok8_in noStop 30 ?_
  unfold fIn at h
  refine iteI (fun h1 => ?_) (fun h1 => ?_)
  · rw [if_pos h1] at h; exact h
  · rw [if_neg h1] at h
    refine iteI (fun h2 => ?_) (fun h2 => ?_)
    · rw [if_pos h2] at h; exact h
    · rw [if_neg h2] at h; exact h
/-- a vector: 13 (now) or 15 (tried) -/
def isV (r : Nat) : Prop := r = 13 ∨ r = 15
def fAb (a h : Int32) : Int32 := if (a >>> (h &&& 31)) &&& 1 = 1 then 1 else 0
theorem cm_isAboard {d r : Nat} (hr : isV r) {h : Int32} {M : AM} {L : AL} {Q : QT} (hq : Q (some (.int (fAb (M r 0) h))) Sm M L) : CW E8_isAboard d 0 [.ref 0, .ref r, .int h] Sm M L Q := by
  unfold fAb at hq
  rcases hr with rfl | rfl <;>
  · refine cw_ent ok8_isAboard noStop 30 ?_
    refine inBI 0 rfl (by decide) ?_
    refine iteI (fun h1 => ?_) (fun h1 => ?_)
    · rw [if_pos h1] at hq; exact hq
    · rw [if_neg h1] at hq; exact hq
def manyUp (s : Int32) : Nat → Int32
  | 0 => 0
  | n + 1 => manyUp s n + (s >>> (nI n &&& 31) &&& 1)
theorem cm_many {d : Nat} {s : Int32} {S : AS} {M : AM} {L : AL} {Q : QT} (h : Q (some (.int (manyUp s 6))) S M L) : CW E8_manyOf d 0 [.int s] S M L Q := by
  refine cw_ent ok8_manyOf (at1 4) 30 ?_
  refine aw_loop 6 (fun i => [some (.int s), some (.int (manyUp s i)), some (.int (nI i))]) (fun _ => M) ?_ ?_
  · refine aw_run ok8_manyOf (at1 4) 30 ?_
    exact h
  · intro i hi ih
    rw [nI_succ] at ih
    refine aw_run ok8_manyOf (at1 4) 30 ?_
    exact ifF (nI_ge (b := 6) hi (by decide)) ih
def firstUp (s : Int32) : Nat → Nat → Int32
  | _, 0 => -9
  | i, n + 1 => if s >>> (nI i &&& 31) &&& 1 = 1 then nI i else firstUp s (i + 1) n
theorem cm_first {d : Nat} {s : Int32} {S : AS} {M : AM} {L : AL} {Q : QT} (h : Q (some (.int (firstUp s 0 6))) S M L) : CW E8_firstOf d 0 [.int s] S M L Q := by
  refine cw_ent ok8_firstOf (at1 2) 30 ?_
  have key : ∀ n i, i + n = 6 → Q (some (.int (firstUp s i n))) S M L → AW E8_firstOf d 0 S.length Q 2 [some (.int s), some (.int (nI i))] [] S M L 0 := by
    intro n
    induction n with
    | zero =>
      intro i hi hq
      have : i = 6 := by omega
      subst this
      refine aw_run ok8_firstOf (at1 2) 30 ?_
      exact hq
    | succ n ih =>
      intro i hi hq
      refine aw_run ok8_firstOf (at1 2) 30 ?_
      refine ifF (nI_ge (b := 6) (by omega) (by decide)) ?_
      unfold firstUp at hq
      refine iteI (fun (h1 : s >>> (nI i &&& 31) &&& 1 = 1) => ?_) (fun h1 => ?_)
      · rw [if_pos h1] at hq; exact hq
      · rw [if_neg h1] at hq
        have := ih (i + 1) (by omega) hq
        rw [nI_succ] at this
        exact this
  exact key 6 0 rfl h
theorem fIn_01 (v lo hi : Int32) : fIn v lo hi = 0 ∨ fIn v lo hi = 1 := by
  unfold fIn
  split
  · exact Or.inl rfl
  · split
    · exact Or.inl rfl
    · exact Or.inr rfl
theorem fAb_01 (a h : Int32) : fAb a h = 0 ∨ fAb a h = 1 := by
  unfold fAb
  split
  · exact Or.inr rfl
  · exact Or.inl rfl
theorem cm_isHand {d : Nat} {h : Int32} {M : AM} {L : AL} {Q : QT} (hq : Q (some (.int (fIn h 0 (M 2 0 - 1)))) Sm M L) : CW E8_isHand (d + 1) 0 [.ref 0, .int h] Sm M L Q := by
  refine cw_ent ok8_isHand noStop 30 ?_
  refine inBI 0 rfl (by decide) ?_
  refine cm_in ?_
  exact ifT (fIn_01 _ _ _) hq
theorem cm_isShip {d : Nat} {h : Int32} {M : AM} {L : AL} {Q : QT} (hq : Q (some (.int (fIn h 0 (M 7 0 - 1)))) Sm M L) : CW E8_isShip (d + 1) 0 [.ref 0, .int h] Sm M L Q := by
  refine cw_ent ok8_isShip noStop 30 ?_
  refine inBI 0 rfl (by decide) ?_
  refine cm_in ?_
  exact ifT (fIn_01 _ _ _) hq
/-- which indices there are -/
theorem fIn_ix (x : Int32) {n : Nat} (hn : n < 1000) : (fIn x 0 (nI n - 1) = 0 ∧ (x < 0 ∨ nI n ≤ x)) ∨ ∃ j : Nat, j < n ∧ x = nI j ∧ fIn x 0 (nI n - 1) = 1 := by
  have hle : ∀ j : Nat, j < 2 ^ 31 → (nI n - 1 < nI j ↔ n ≤ j) := by
    intro j hj
    rw [Int32.lt_iff_toInt_lt, nI_toInt hj]
    have : (nI n - 1).toInt = (n : Int) - 1 := by
      have := pk_sub_toInt (a := n) (b := 1) (by omega) (by decide)
      exact this
    omega
  rcases pk_ix x (n := n) (by omega) with h | h | ⟨j, hj, rfl⟩
  · exact Or.inl ⟨by unfold fIn; rw [if_pos h], Or.inl h⟩
  · by_cases h0 : x < 0
    · exact Or.inl ⟨by unfold fIn; rw [if_pos h0], Or.inl h0⟩
    · obtain ⟨j, hj, rfl⟩ := nI_of h0
      rw [nI_leI (by omega) hj] at h
      exact Or.inl ⟨by unfold fIn; rw [if_neg h0, if_pos ((hle j hj).mpr h)], Or.inr (nI_le h hj)⟩
  · refine Or.inr ⟨j, hj, rfl, ?_⟩
    unfold fIn
    rw [if_neg (nI_pos (by omega)), if_neg]
    rw [hle j (by omega)]
    omega
theorem cm_part {d r h : Nat} (hr : isV r) (hh : h < 6) {M : AM} {L : AL} {Q : QT} (hq : Q (some (.int (if fAb (M r 0) (nI h) = 0 then 0 else if M r 1 = nI h then 2 * M 3 h else M 3 h))) Sm M L) : CW E8_part (d + 1) 0 [.ref 0, .ref r, .int (nI h)] Sm M L Q := by
  refine cw_ent ok8_part noStop 60 ?_
  rcases hr with rfl | rfl
  · refine cm_isAboard (Or.inl rfl) ?_
    refine iteI (fun h1 => ?_) (fun h1 => ?_)
    · rw [if_pos h1] at hq; exact hq
    · rw [if_neg h1] at hq
      refine inBI 1 rfl (by decide) ?_
      refine iteI (fun h2 => ?_) (fun h2 => ?_)
      · rw [if_pos h2] at hq
        exact inBI (n := 12) h rfl (by omega) hq
      · rw [if_neg h2] at hq
        exact inBI (n := 12) h rfl (by omega) hq
  · refine cm_isAboard (Or.inr rfl) ?_
    refine iteI (fun h1 => ?_) (fun h1 => ?_)
    · rw [if_pos h1] at hq; exact hq
    · rw [if_neg h1] at hq
      refine inBI 1 rfl (by decide) ?_
      refine iteI (fun h2 => ?_) (fun h2 => ?_)
      · rw [if_pos h2] at hq
        exact inBI (n := 12) h rfl (by omega) hq
      · rw [if_neg h2] at hq
        exact inBI (n := 12) h rfl (by omega) hq
/-- sums -/
def sumTo (f : Nat → Int32) : Nat → Int32
  | 0 => 0
  | n + 1 => sumTo f n + f n
def fPart (a cp : Int32) (hv : Nat → Int32) (h : Nat) : Int32 := if fAb a (nI h) = 0 then 0 else if cp = nI h then 2 * hv h else hv h
theorem cm_parts {d r n : Nat} (hr : isV r) {M : AM} (hn : M 2 0 = nI n) (hn6 : n ≤ 6) {L : AL} {Q : QT} (hq : Q (some (.int (sumTo (fPart (M r 0) (M r 1) (M 3)) n))) Sm M L) : CW E8_parts (d + 2) 0 [.ref 0, .ref r] Sm M L Q := by
  refine cw_ent ok8_parts (at1 4) 30 ?_
  refine aw_loop n (fun i => [some (.ref 0), some (.ref r), some (.int (sumTo (fPart (M r 0) (M r 1) (M 3)) i)), some (.int (nI i))]) (fun _ => M) ?_ ?_
  · refine aw_run ok8_parts (at1 4) 30 ?_
    refine inBI 0 rfl (by decide) ?_
    exact ifT (by rw [hn]; exact Int32.le_refl _) hq
  · intro i hi ih
    rw [nI_succ] at ih
    refine aw_run ok8_parts (at1 4) 30 ?_
    refine inBI 0 rfl (by decide) ?_
    refine ifF (by rw [hn]; exact nI_ge hi (by omega)) ?_
    exact cm_part hr (by omega) ih
def fStr (x : Int32) : Int32 := if 0 ≤ x then x else 0
theorem cm_fightOf {d r h : Nat} (hr : isV r) (hh : h < 6) {M : AM} {L : AL} {Q : QT} (hq : Q (some (.int (fStr (M 4 h - M r (9 + h))))) Sm M L) : CW E8_fightOf d 0 [.ref 0, .ref r, .int (nI h)] Sm M L Q := by
  unfold fStr at hq
  rcases hr with rfl | rfl
  · refine cw_ent ok8_fightOf noStop 60 ?_
    refine inBI (n := 12) h rfl (by omega) ?_
    refine inBI (n := 1158) (9 + h) (nI_add 9 h) (by omega) ?_
    refine iteI (fun h1 => ?_) (fun h1 => ?_)
    · rw [if_pos h1] at hq; exact hq
    · rw [if_neg h1] at hq; exact hq
  · refine cw_ent ok8_fightOf noStop 60 ?_
    refine inBI (n := 12) h rfl (by omega) ?_
    refine inBI (n := 35) (9 + h) (nI_add 9 h) (by omega) ?_
    refine iteI (fun h1 => ?_) (fun h1 => ?_)
    · rw [if_pos h1] at hq; exact hq
    · rw [if_neg h1] at hq; exact hq
def fForce (a but : Int32) (sv : Nat → Int32) (h : Nat) : Int32 := if fAb a (nI h) = 0 then 0 else if but >>> (nI h &&& 31) &&& 1 = 0 then sv h else 0
theorem cm_force {d r n : Nat} (hr : isV r) {M : AM} {but : Int32} (hn : M 2 0 = nI n) (hn6 : n ≤ 6) {L : AL} {Q : QT} (hq : Q (some (.int (sumTo (fForce (M r 0) but (fun h => fStr (M 4 h - M r (9 + h)))) n))) Sm M L) : CW E8_force (d + 1) 0 [.ref 0, .ref r, .int but] Sm M L Q := by
  refine cw_ent ok8_force (at1 5) 30 ?_
  refine aw_loop n (fun i => [some (.ref 0), some (.ref r), some (.int but), some (.int (sumTo (fForce (M r 0) but (fun h => fStr (M 4 h - M r (9 + h)))) i)), some (.int (nI i))]) (fun _ => M) ?_ ?_
  · refine aw_run ok8_force (at1 5) 40 ?_
    refine inBI 0 rfl (by decide) ?_
    exact ifT (by rw [hn]; exact Int32.le_refl _) hq
  · intro i hi ih
    rw [nI_succ] at ih
    refine aw_run ok8_force (at1 5) 40 ?_
    refine inBI 0 rfl (by decide) ?_
    refine ifF (by rw [hn]; exact nI_ge hi (by omega)) ?_
    unfold sumTo fForce at ih
    refine cm_isAboard hr ?_
    refine iteI (fun h1 => ?_) (fun h1 => ?_)
    · rw [if_pos h1] at ih; exact ih
    · rw [if_neg h1] at ih
      refine iteI (fun h2 => ?_) (fun h2 => ?_)
      · rw [if_pos h2] at ih
        exact cm_fightOf hr (by omega) ih
      · rw [if_neg h2] at ih
        exact ih
