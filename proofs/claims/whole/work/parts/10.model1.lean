/-! ===== the model's world and its small methods ===== -/
def Sm : AS := [.inl (8, [.long 0, .ref 1, .int 0, .ref 2, .ref 3, .ref 4, .ref 5, .ref 6, .ref 7, .ref 8, .ref 9, .ref 10, .ref 11, .ref 12, .int 0, .int 0, .int 0, .int 0, .int 0, .int 0, .ref 13, .ref 14, .ref 15, .ref 16, .ref 17, .ref 18, .int 0, .ref 19, .ref 20, .int 0]),
  .inr (.byte, 150, fun _ => none), .inr (.int, 2, fun _ => none), .inr (.int, 12, fun _ => none), .inr (.int, 12, fun _ => none), .inr (.int, 12, fun _ => none), .inr (.int, 12, fun _ => none), .inr (.int, 2, fun _ => none), .inr (.int, 10, fun _ => none), .inr (.int, 10, fun _ => none), .inr (.int, 2, fun _ => none), .inr (.int, 10, fun _ => none), .inr (.int, 2, fun _ => none), .inr (.int, 1158, fun _ => none), .inr (.boolean, 2, fun _ => none), .inr (.int, 35, fun _ => none), .inr (.int, 6, fun _ => none), .inr (.int, 5, fun _ => none), .inr (.int, 5, fun _ => none), .inr (.int, 6, fun _ => none), .inr (.int, 6, fun _ => none)]
def fIn (v lo hi : Int32) : Int32 := if v < lo then 0 else if hi < v then 0 else 1
theorem cm_in {d : Nat} {v lo hi : Int32} {S : AS} {M : AM} {L : AL} {Q : QT} (h : Q (some (.int (fIn v lo hi))) S M L) : CW E8_in d 0 [.int v, .int lo, .int hi] S M L Q := by
  refine cw_ent ok8_in noStop 30 ?_
  unfold fIn at h
  refine iteI (fun h1 => ?_) (fun h1 => ?_)
  · rw [if_pos h1] at h; exact h
  · rw [if_neg h1] at h
    refine iteI (fun h2 => ?_) (fun h2 => ?_)
    · rw [if_pos h2] at h; exact h
    · rw [if_neg h2] at h; exact h
/-- a vector: 13 (now) or 15 (tried) -/
def isV (r : Nat) : Prop := r = 13 ∨ r = 15
def fAb (a h : Int32) : Int32 := if (a >>> (h &&& 31)) &&& 1 = 1 then 1 else 0
theorem cm_isAboard {d r : Nat} (hr : isV r) {h : Int32} {M : AM} {L : AL} {Q : QT} (hq : Q (some (.int (fAb (M r 0) h))) Sm M L) : CW E8_isAboard d 0 [.ref 0, .ref r, .int h] Sm M L Q := by
  unfold fAb at hq
  rcases hr with rfl | rfl
  · refine cw_ent ok8_isAboard noStop 30 ?_
    refine iteI (fun (h1 : M 13 0 >>> (h &&& 31) &&& 1 = 1) => ?_) (fun (h1 : ¬ M 13 0 >>> (h &&& 31) &&& 1 = 1) => ?_)
    · rw [if_pos h1] at hq; exact hq
    · rw [if_neg h1] at hq; exact hq
  · refine cw_ent ok8_isAboard noStop 30 ?_
    refine iteI (fun (h1 : M 15 0 >>> (h &&& 31) &&& 1 = 1) => ?_) (fun (h1 : ¬ M 15 0 >>> (h &&& 31) &&& 1 = 1) => ?_)
    · rw [if_pos h1] at hq; exact hq
    · rw [if_neg h1] at hq; exact hq

def manyUp (s : Int32) : Nat → Int32
  | 0 => 0
  | n + 1 => manyUp s n + (s >>> (nI n &&& 31) &&& 1)
theorem cm_many {d : Nat} {s : Int32} {S : AS} {M : AM} {L : AL} {Q : QT} (h : Q (some (.int (manyUp s 6))) S M L) : CW E8_manyOf d 0 [.int s] S M L Q := by
  refine cw_ent ok8_manyOf (at1 4) 30 ?_
  refine aw_loop 6 (fun i => [some (.int s), some (.int (manyUp s i)), some (.int (nI i))]) (fun _ => M) ?_ ?_
  · refine aw_run ok8_manyOf (at1 4) 30 ?_
    exact h
  · intro i hi ih
    rw [nI_succ] at ih
    refine aw_run ok8_manyOf (at1 4) 30 ?_
    exact ifF (nI_ge (b := 6) hi (by decide)) ih
def firstUp (s : Int32) : Nat → Nat → Int32
  | _, 0 => -9
  | i, n + 1 => if s >>> (nI i &&& 31) &&& 1 = 1 then nI i else firstUp s (i + 1) n
theorem cm_first {d : Nat} {s : Int32} {S : AS} {M : AM} {L : AL} {Q : QT} (h : Q (some (.int (firstUp s 0 6))) S M L) : CW E8_firstOf d 0 [.int s] S M L Q := by
  refine cw_ent ok8_firstOf (at1 2) 30 ?_
  have key : ∀ n i, i + n = 6 → Q (some (.int (firstUp s i n))) S M L → AW E8_firstOf d 0 S.length Q 2 [some (.int s), some (.int (nI i))] [] S M L 0 := by
    intro n
    induction n with
    | zero =>
      intro i hi hq
      have : i = 6 := by omega
      subst this
      refine aw_run ok8_firstOf (at1 2) 30 ?_
      exact hq
    | succ n ih =>
      intro i hi hq
      refine aw_run ok8_firstOf (at1 2) 30 ?_
      refine ifF (nI_ge (b := 6) (by omega) (by decide)) ?_
      unfold firstUp at hq
      refine iteI (fun (h1 : s >>> (nI i &&& 31) &&& 1 = 1) => ?_) (fun h1 => ?_)
      · rw [if_pos h1] at hq; exact hq
      · rw [if_neg h1] at hq
        have := ih (i + 1) (by omega) hq
        rw [nI_succ] at this
        exact this
  exact key 6 0 rfl h
